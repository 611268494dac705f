/-! SIZES: resize against sizes; release against frees. -/
theorem bk_sz (f : Nat → Nat) (i n a t : Nat) : bkR (va_up f (20 * i + 1) n) a t = bkR f a t := by
  have : ∀ m e t, e + m ≤ 8 → bkG (va_up f (20 * i + 1) n) a m e t = bkG f a m e t := by
    intro m
    induction m with
    | zero => intro _ _ _; rfl
    | succ m ih =>
      intro e t he
      unfold bkG
      rw [ih _ _ (by omega), va_up_ne (k := 20 * i + 1) (j := 20 * a + 4 + 2 * e) _ _ (by omega), va_up_ne (k := 20 * i + 1) (j := 20 * a + 3 + 2 * e) _ _ (by omega)]
  exact this 8 0 t (by decide)
theorem bs_sz (f : Nat → Nat) (i n a : Nat) (h8 : f (20 * a + 2) ≤ 8) : bsR (va_up f (20 * i + 1) n) a = bsR f a := by
  unfold bsR; rw [va_up_ne _ _ (by omega)]; exact bs_up (f (20 * a + 2)) (fun j hj => by omega)
theorem wfb_sz {L : Nat} {nd ow : Nat → Nat} {i n : Nat} (W : WFb L nd ow) : WFb L (va_up nd (20 * i + 1) n) ow := by
  refine ⟨wf_up1 W.1, W.2.1, fun a ha t ht => ?_, fun a ha t ht t' ht' e => ?_⟩
  · rw [bs_sz _ _ _ _ (W.1 a ha).1] at ht; rw [bk_sz]; exact W.2.2.1 a ha t ht
  · rw [bs_sz _ _ _ _ (W.1 a ha).1] at ht ht'; rw [bk_sz, bk_sz] at e; exact W.2.2.2 a ha t ht t' ht' e
theorem szZ_sz (i n : Nat) : ∀ m c r, szZ i m c (qNd r (va_up (rNd r) (20 * i + 1) n)) = qNd (szZ i m c r) (va_up (rNd r) (20 * i + 1) n) := by
  intro m
  induction m with
  | zero => intro c r; rfl
  | succ m ih =>
    intro c r
    unfold szZ
    have : ptR (qNd r (va_up (rNd r) (20 * i + 1) n)) i c 0 = qNd (ptR r i c 0) (va_up (rNd (ptR r i c 0)) (20 * i + 1) n) := by
      show qNw (qNd r (va_up (rNd r) (20 * i + 1) n)) (va_up (rNw r) (64 * bkR (va_up (rNd r) (20 * i + 1) n) i (c / 64) + c % 64) 0) = _
      rw [bk_sz]; rfl
    rw [this, ih (c + 1) (ptR r i c 0)]; rfl
theorem szZ_add (i : Nat) : ∀ m k c r, szZ i (m + k) c r = szZ i k (c + m) (szZ i m c r) := by
  intro m
  induction m with
  | zero => intro k c r; rw [Nat.zero_add]; rfl
  | succ m ih => intro k c r; rw [show m + 1 + k = (m + k) + 1 by omega, szZ, ih k (c + 1), szZ]; congr 1; omega
theorem pt_id {r : RSt} {i c : Nat} (h : gt (rNd r) (rNw r) i c = 0) : ptR r i c 0 = r := by
  have : va_up (rNw r) (64 * bkR (rNd r) i (c / 64) + c % 64) 0 = rNw r := by
    funext q; unfold va_up; split
    · next e => rw [e]; exact h.symm
    · rfl
  show qNw r (va_up (rNw r) (64 * bkR (rNd r) i (c / 64) + c % 64) 0) = r
  rw [this]
theorem szZ_id (i : Nat) : ∀ m c r, (∀ c', c ≤ c' → c' < c + m → gt (rNd r) (rNw r) i c' = 0) → szZ i m c r = r := by
  intro m
  induction m with
  | zero => intro c r _; rfl
  | succ m ih => intro c r h; unfold szZ; rw [pt_id (h c (by omega) (by omega))]; exact ih (c + 1) r (fun c' h1 h2 => h c' (by omega) (by omega))
/-- inode i got the size n -/
def SzC (L : Nat) (r r' : RSt) (i n : Nat) : Prop := WFb L (rNd r') (rOw r') ∧ (∀ q, q < 20 * i ∨ 20 * i + 20 ≤ q ∨ q = 20 * i → rNd r' q = rNd r q) ∧ rNd r' (20 * i + 1) = n ∧ bsR (rNd r') i = ndz n ∧
  (∀ c, c < 64 * ndz n → gt (rNd r') (rNw r') i c = if c < n ∧ c < rNd r (20 * i + 1) then gt (rNd r) (rNw r) i c else 0) ∧ (∀ a, a < 64 → a ≠ i → ∀ c, c < 64 * bsR (rNd r) a → gt (rNd r') (rNw r') a c = gt (rNd r) (rNw r) a c) ∧ ((∀ q, rNw r q < 256) → ∀ q, rNw r' q < 256)
theorem sz_sim {L : Nat} {u : DSt} {r : RSt} {i n : Nat} (hL0 : 96 ≤ L) (hL : L ≤ 768) (S : Sim L u r) (W : WFb L (rNd r) (rOw r)) (hi : i < 64) (hs : bsR (rNd r) i = ndz (rNd r (20 * i + 1))) (hs2 : rNd r (20 * i + 1) < 65536) (hn : n < 65536)
    (ht : ∀ c, rNd r (20 * i + 1) ≤ c → c < 64 * bsR (rNd r) i → gt (rNd r) (rNw r) i c = 0) :
    (rsz L u i n).1 = (szR L r i n).1 ∧ ((szR L r i n).1 = true → Sim L (rsz L u i n).2 (szR L r i n).2 ∧ SzC L r (szR L r i n).2 i n) := by
  have eS : iS L (dNow u) i = rNd r (20 * i + 1) := R_S S hL0 hL hi hs2
  generalize hsz : rNd r (20 * i + 1) = sz at *
  have hs9 : bsR (rNd r) i = (sz + 63) / 64 := hs
  obtain ⟨a1, a2⟩ := szT_sim hL0 hL hi (ndz n - bsR (rNd r) i) u r S W
  have e1 : rs1 L u i n = rtG L i (ndz n - bsR (rNd r) i) u := by
    unfold rs1; rw [eS, hs9]; rfl
  have e2 : (rsz L u i n).1 = (rs1 L u i n).1 := by
    unfold rsz
    by_cases z : (rs1 L u i n).1 = true
    · rw [if_pos z, z]
    · rw [if_neg z]; rw [Bool.not_eq_true] at z; rw [z]
  have e3 : (szR L r i n).1 = (szT L i (ndz n - bsR (rNd r) i) r).1 := rfl
  refine ⟨by rw [e2, e1, a1, e3], fun hok => ?_⟩
  rw [e3] at hok
  obtain ⟨b1, b2⟩ := a2 hok
  -- shrinking
  have hb1 : bsR (rNd (sz1 L r i n).2) i = bsR (rNd r) i + (ndz n - bsR (rNd r) i) := b2.2.2.1
  obtain ⟨c1, c2⟩ := szG_sim hL0 hL hi (bsR (rNd (sz1 L r i n).2) i - ndz n) _ _ b1 b2.1 (Nat.sub_le _ _)
  have c1' : Sim L (rgG L i (bsR (rNd (sz1 L r i n).2) i - ndz n) (rtG L i (ndz n - bsR (rNd r) i) u).2) (sz2 L r i n) := c1
  have c2' : Blk L (sz1 L r i n).2 (sz2 L r i n) i (bsR (rNd (sz1 L r i n).2) i - (bsR (rNd (sz1 L r i n).2) i - ndz n)) := c2
  rw [show bsR (rNd (sz1 L r i n).2) i - (bsR (rNd (sz1 L r i n).2) i - ndz n) = ndz n by omega] at c2'
  have B : Blk L r (sz2 L r i n) i (ndz n) := Blk.up b2 c2' (by omega)
  have e4 : rs2 L u i n = rgG L i (bsR (rNd (sz1 L r i n).2) i - ndz n) (rtG L i (ndz n - bsR (rNd r) i) u).2 := by
    unfold rs2; rw [e1, eS, hb1, hs9]; congr 1; show (sz + 64 - 1) / 64 - (n + 64 - 1) / 64 = (sz + 63) / 64 + ((n + 63) / 64 - (sz + 63) / 64) - (n + 63) / 64; omega
  rw [← e4] at c1'
  -- zeros
  have hnb : n ≤ 64 * ndz n := by show n ≤ 64 * ((n + 63) / 64); omega
  obtain ⟨z1, z2, z3, z4⟩ := szZ_gt (L := L) hi (64 * ndz n - n) n (sz2 L r i n) B.1 (by rw [B.2.2.1]; omega)
  have hcnt : min sz (blk n * 64) - n ≤ 64 * ndz n - n := by
    have : blk n * 64 = 64 * ndz n := by show (n + 64 - 1) / 64 * 64 = 64 * ((n + 63) / 64); omega
    omega
  have eZ : szZ i (64 * ndz n - n) n (sz2 L r i n) = szZ i (min sz (blk n * 64) - n) n (sz2 L r i n) := by
    have hbl : blk n * 64 = 64 * ndz n := by show (n + 64 - 1) / 64 * 64 = 64 * ((n + 63) / 64); omega
    have hk : 64 * ndz n - n = (min sz (blk n * 64) - n) + (64 * ndz n - n - (min sz (blk n * 64) - n)) := by omega
    obtain ⟨y1, y2, y3, -⟩ := szZ_gt (L := L) hi (min sz (blk n * 64) - n) n (sz2 L r i n) B.1 (by rw [B.2.2.1]; omega)
    rw [hk, szZ_add]
    refine szZ_id i _ _ _ (fun c' h1 h2 => ?_)
    rw [y1, y3 i hi c' (by rw [B.2.2.1]; omega), if_neg (by omega), B.2.2.2.1 c' (by omega)]
    by_cases q : c' < 64 * bsR (rNd r) i
    · rw [if_pos q]; exact ht c' (by omega) q
    · rw [if_neg q]
  have d1 : Sim L (rs3 L u i n) (szZ i (64 * ndz n - n) n (sz2 L r i n)) := by
    rw [eZ]; unfold rs3; rw [eS]
    exact szZ_sim hL0 hL hi _ n _ _ c1' B.1 (by rw [B.2.2.1]; omega)
  have eR : (szR L r i n).2 = qNd (szZ i (64 * ndz n - n) n (sz2 L r i n)) (va_up (rNd (sz2 L r i n)) (20 * i + 1) n) := by
    show (if (sz1 L r i n).1 = true then szZ i (64 * ndz n - n) n (sz3 L r i n) else sz3 L r i n) = _
    rw [if_pos (show (sz1 L r i n).1 = true from hok)]
    exact szZ_sz i n _ n (sz2 L r i n)
  have eC : (rsz L u i n).2 = setP L (rs3 L u i n) (nI (1600 + 32 * i + 2)) (nI n) := by
    unfold rsz; rw [if_pos (by rw [e1, a1]; exact hok)]
  have rowz : ∀ q, q ≠ 20 * i + 1 → va_up (rNd (sz2 L r i n)) (20 * i + 1) n q = rNd (sz2 L r i n) q := fun q hq => va_up_ne _ _ hq
  refine ⟨?_, ?_⟩
  · rw [eC, eR]
    have s1 := S_pair hL0 hL d1 hi (show 2 < 31 by decide) hn
    rw [z1, z2] at s1
    have s2 := s1.h_eq (h' := nbR (va_up (rNd (sz2 L r i n)) (20 * i + 1) n)) (fun a ha k hk => ?_)
    · show SimH _ _ _ (nbR (va_up (rNd (sz2 L r i n)) (20 * i + 1) n)) (rOw (szZ i (64 * ndz n - n) n (sz2 L r i n))) _
      rw [z2]; exact s2
    · by_cases ca : a = i
      · subst ca
        have eX := rowz (20 * a + 2) (by omega)
        refine nb_k hk (fun k => up2 (up2 (nbR (rNd (sz2 L r a n))) a 2 (n % 256)) a (2 + 1) (n / 256) a k = nbR (va_up (rNd (sz2 L r a n)) (20 * a + 1) n) a k) ?_ ?_ ?_ ?_ ?_ ?_ ?_
        · rw [up2_k (by omega), up2_k (by omega), nb_0, nb_0, rowz _ (by omega)]
        · rw [up2_k (by omega), up2_k (by omega), nb_1, nb_1, eX]
        · rw [up2_k (by omega), up2_self, nb_2, va_up_self]
        · rw [up2_self, nb_3, va_up_self]; omega
        · intro e _; rw [up2_k (by omega), up2_k (by omega), nb_f, nb_f, eX, rowz _ (by omega)]
        · intro e _; rw [up2_k (by omega), up2_k (by omega), nb_g, nb_g, eX, rowz _ (by omega)]
        · intro e _; rw [up2_k (by omega), up2_k (by omega), nb_l, nb_l, eX, rowz _ (by omega)]
      · have row : ∀ q, 20 * a ≤ q → q < 20 * a + 20 → rNd (sz2 L r i n) q = va_up (rNd (sz2 L r i n)) (20 * i + 1) n q := fun q h1 h2 => (rowz q (by omega)).symm
        rw [up2_i ca, up2_i ca]; exact nb_row row (B.1.1 a ha).1 hk
  · rw [eR]
    have gE : ∀ a c, gt (va_up (rNd (sz2 L r i n)) (20 * i + 1) n) (rNw (szZ i (64 * ndz n - n) n (sz2 L r i n))) a c = gt (rNd (sz2 L r i n)) (rNw (szZ i (64 * ndz n - n) n (sz2 L r i n))) a c := fun a c => by unfold gt; rw [bk_sz]
    refine ⟨?_, fun q hq => ?_, va_up_self _ _ _, ?_, fun c hc => ?_, fun a ha hne c hc => ?_, fun h => z4 (B.2.2.2.2.2 h)⟩
    · show WFb L (va_up (rNd (sz2 L r i n)) (20 * i + 1) n) (rOw (szZ i (64 * ndz n - n) n (sz2 L r i n)))
      rw [z2]; exact wfb_sz B.1
    · show va_up (rNd (sz2 L r i n)) (20 * i + 1) n q = _
      rw [rowz q (by omega)]; exact B.2.1 q (by omega)
    · show bsR (va_up (rNd (sz2 L r i n)) (20 * i + 1) n) i = _
      rw [bs_sz _ _ _ _ (B.1.1 i hi).1]; exact B.2.2.1
    · show gt (va_up (rNd (sz2 L r i n)) (20 * i + 1) n) (rNw (szZ i (64 * ndz n - n) n (sz2 L r i n))) i c = _
      rw [gE, z3 i hi c (by rw [B.2.2.1]; exact hc), hsz]
      by_cases q1 : c < n
      · rw [if_neg (by omega), B.2.2.2.1 c hc]
        by_cases q2 : c < sz
        · rw [if_pos (by omega), if_pos ⟨q1, q2⟩]
        · rw [if_neg (show ¬ (c < n ∧ c < sz) from fun z => q2 z.2)]
          by_cases q3 : c < 64 * bsR (rNd r) i
          · rw [if_pos q3]; exact ht c (by omega) q3
          · rw [if_neg q3]
      · rw [if_pos (by omega), if_neg (show ¬ (c < n ∧ c < sz) from fun z => q1 z.1)]
    · show gt (va_up (rNd (sz2 L r i n)) (20 * i + 1) n) (rNw (szZ i (64 * ndz n - n) n (sz2 L r i n))) a c = _
      rw [gE, z3 a ha c (by rw [B.bs ha hne]; exact hc), if_neg (fun z => hne z.1)]
      exact B.2.2.2.2.1 a ha hne c hc
/-- inode i was freed -/
def FrC (L : Nat) (r r' : RSt) (i : Nat) : Prop := WFb L (rNd r') (rOw r') ∧ (∀ q, q < 20 * i ∨ 20 * i + 20 ≤ q → rNd r' q = rNd r q) ∧ (∀ q, 20 * i ≤ q → q < 20 * i + 20 → rNd r' q = 0) ∧ rNw r' = rNw r ∧ (∀ a, a < 64 → a ≠ i → ∀ c, c < 64 * bsR (rNd r) a → gt (rNd r') (rNw r') a c = gt (rNd r) (rNw r) a c)
theorem fr_szG (i : Nat) : ∀ m r, frG i m r = szG i m r := by
  intro m
  induction m with
  | zero => intro r; rfl
  | succ m ih => intro r; exact ih _
theorem szG_nw {L i : Nat} (hi : i < 64) : ∀ m r, WFb L (rNd r) (rOw r) → m ≤ bsR (rNd r) i → rNw (szG i m r) = rNw r := by
  intro m
  induction m with
  | zero => intro r _ _; rfl
  | succ m ih =>
    intro r W hm
    have h1 : 1 ≤ lX r i := bs_0 (t := 0) (by omega)
    have G := gv_char W.1 hi h1
    unfold szG
    rw [ih _ (gv_WFb W hi G) (by have := G.2.2.2.2.1; omega)]; exact G.2.1
theorem nb_zero {f : Nat → Nat} {i k : Nat} (h : ∀ q, 20 * i ≤ q → q < 20 * i + 20 → f q = 0) (hk : k < 32) : nbR f i k = 0 := by
  have hX := h (20 * i + 2) (by omega) (by omega)
  refine nb_k hk (fun k => nbR f i k = 0) ?_ ?_ ?_ ?_ ?_ ?_ ?_
  · rw [nb_0, h _ (by omega) (by omega)]
  · rw [nb_1, hX]
  · rw [nb_2, h _ (by omega) (by omega)]
  · rw [nb_3, h _ (by omega) (by omega)]
  · intro e _; rw [nb_f, hX, if_neg (by omega)]
  · intro e _; rw [nb_g, hX, if_neg (by omega)]
  · intro e _; rw [nb_l, hX, if_neg (by omega)]
theorem fr_sim {L : Nat} {u : DSt} {r : RSt} {i : Nat} (hL0 : 96 ≤ L) (hL : L ≤ 768) (S : Sim L u r) (W : WFb L (rNd r) (rOw r)) (hi : i < 64) (hs : bsR (rNd r) i = ndz (rNd r (20 * i + 1))) (hs2 : rNd r (20 * i + 1) < 65536) :
    Sim L (rel L u i) (frR r i) ∧ FrC L r (frR r i) i := by
  have eS : iS L (dNow u) i = rNd r (20 * i + 1) := R_S S hL0 hL hi hs2
  obtain ⟨c1, B⟩ := szG_sim hL0 hL hi (bsR (rNd r) i) u r S W (Nat.le_refl _)
  rw [Nat.sub_self] at B
  have hnw := szG_nw (L := L) hi (bsR (rNd r) i) r W (Nat.le_refl _)
  have e1 : fr1 r i = szG i (bsR (rNd r) i) r := fr_szG i _ r
  have hX0 : rNd (szG i (bsR (rNd r) i) r) (20 * i + 2) = 0 := by
    rcases Nat.eq_zero_or_pos (rNd (szG i (bsR (rNd r) i) r) (20 * i + 2)) with z | z
    · exact z
    · exfalso
      have h1 := ((B.1.1 i hi).2 0 z).1
      have h2 := bs_mono (rNd (szG i (bsR (rNd r) i) r)) i 1 (rNd (szG i (bsR (rNd r) i) r) (20 * i + 2) - 1)
      rw [show 1 + (rNd (szG i (bsR (rNd r) i) r) (20 * i + 2) - 1) = rNd (szG i (bsR (rNd r) i) r) (20 * i + 2) by omega] at h2
      have h3 : bs (rNd (szG i (bsR (rNd r) i) r)) i 1 = 0 + rNd (szG i (bsR (rNd r) i) r) (20 * i + 4 + 2 * 0) := rfl
      have h4 : bs (rNd (szG i (bsR (rNd r) i) r)) i (rNd (szG i (bsR (rNd r) i) r) (20 * i + 2)) = 0 := B.2.2.1
      omega
  have eC : (rsz L u i 0).2 = setP L (rgG L i (bsR (rNd r) i) u) (nI (1600 + 32 * i + 2)) (nI 0) := by
    have e2 : rs1 L u i 0 = (true, u) := by unfold rs1; rw [show blk 0 - blk (iS L (dNow u) i) = 0 from by show (0 + 64 - 1) / 64 - _ = 0; omega]; rfl
    have e3 : rs2 L u i 0 = rgG L i (bsR (rNd r) i) u := by
      unfold rs2; rw [e2, eS, hs]; rfl
    unfold rsz
    rw [e2, if_pos rfl]
    have e4 : rs3 L u i 0 = rgG L i (bsR (rNd r) i) u := by
      unfold rs3; rw [e3, eS, show min (rNd r (20 * i + 1)) (blk 0 * 64) - 0 = 0 from by show min _ ((0 + 64 - 1) / 64 * 64) - 0 = 0; omega]; rfl
    rw [e4]
  have zr : ∀ q, 20 * i ≤ q → q < 20 * i + 20 → rNd (frR r i) q = 0 := fun q h1 h2 => by
    show znM (rNd (fr1 r i)) (20 * i) 20 q = 0
    unfold znM; rw [if_pos ⟨h1, h2⟩]
  have ot : ∀ q, q < 20 * i ∨ 20 * i + 20 ≤ q → rNd (frR r i) q = rNd (szG i (bsR (rNd r) i) r) q := fun q h => by
    show znM (rNd (fr1 r i)) (20 * i) 20 q = _
    unfold znM; rw [if_neg (by omega), e1]
  have eow : rOw (frR r i) = rOw (szG i (bsR (rNd r) i) r) := by show rOw (fr1 r i) = _; rw [e1]
  have enw : rNw (frR r i) = rNw r := by show rNw (fr1 r i) = _; rw [e1, hnw]
  have rowa : ∀ a, a ≠ i → ∀ q, 20 * a ≤ q → q < 20 * a + 20 → rNd (frR r i) q = rNd (szG i (bsR (rNd r) i) r) q := fun a ha q h1 h2 => ot q (by omega)
  have hbz : ∀ a, a = i → bsR (rNd (frR r i)) a = 0 := fun a ha => by
    subst ha; unfold bsR; rw [zr _ (by omega) (by omega)]; rfl
  have wfn : wfN (rNd (frR r i)) L := by
    show wfN (znM (rNd (fr1 r i)) (20 * i) 20) L
    rw [e1]; exact zn_wf B.1.1
  refine ⟨?_, ⟨wfn, by rw [eow]; exact B.1.2.1, fun a ha t ht => ?_, fun a ha t ht t' ht' e => ?_⟩, fun q h => ?_, zr, enw, fun a ha hne c hc => ?_⟩
  · unfold rel
    rw [eC]
    have s1 := S_pair hL0 hL c1 hi (show 2 < 31 by decide) (show 0 < 65536 by decide)
    have s2 := S_byte hL0 hL s1 hi (show 0 < 32 by decide) (show 0 < 256 by decide)
    have s3 := s2.h_eq (h' := nbR (rNd (frR r i))) (fun a ha k hk => ?_)
    · show SimH _ _ _ (nbR (rNd (frR r i))) (rOw (frR r i)) (rNw (frR r i))
      rw [eow, enw, ← hnw]; exact s3
    · by_cases ca : a = i
      · subst ca
        rw [nb_zero zr hk]
        refine nb_k hk (fun k => up2 (up2 (up2 (nbR (rNd (szG a (bsR (rNd r) a) r))) a 2 (0 % 256)) a (2 + 1) (0 / 256)) a 0 0 a k = 0) ?_ ?_ ?_ ?_ ?_ ?_ ?_
        · rw [up2_self]
        · rw [up2_k (by omega), up2_k (by omega), up2_k (by omega), nb_1, hX0]
        · rw [up2_k (by omega), up2_k (by omega), up2_self]
        · rw [up2_k (by omega), up2_self]
        · intro e _; rw [up2_k (by omega), up2_k (by omega), up2_k (by omega), nb_f, hX0, if_neg (by omega)]
        · intro e _; rw [up2_k (by omega), up2_k (by omega), up2_k (by omega), nb_g, hX0, if_neg (by omega)]
        · intro e _; rw [up2_k (by omega), up2_k (by omega), up2_k (by omega), nb_l, hX0, if_neg (by omega)]
      · rw [up2_i ca, up2_i ca, up2_i ca]; exact nb_row (fun q h1 h2 => (rowa a ca q h1 h2).symm) (B.1.1 a ha).1 hk
  · by_cases ca : a = i
    · rw [hbz a ca] at ht; omega
    · rw [bsR_row (rowa a ca) (wfn a ha).1] at ht
      rw [bkR_row (rowa a ca), eow]; exact B.1.2.2.1 a ha t ht
  · by_cases ca : a = i
    · rw [hbz a ca] at ht; omega
    · rw [bsR_row (rowa a ca) (wfn a ha).1] at ht ht'
      rw [bkR_row (rowa a ca), bkR_row (rowa a ca)] at e; exact B.1.2.2.2 a ha t ht t' ht' e
  · rw [ot q h]; exact B.2.1 q (by omega)
  · have := B.2.2.2.2.1 a ha hne c hc
    rw [← this]; unfold gt; rw [bkR_row (rowa a hne), enw, hnw]
