/-! CHANGES COUNTED, STATES ALIKE, COMMITS. -/
theorem byt_w {a a' : Nat → Int64} {p : Nat} (h : a' (p / 8) = a (p / 8)) : byt a' p = byt a p := by unfold byt; rw [h]
theorem nb_cg {nd nd' : Nat → Nat} {L i k : Nat} (w : wfN nd L) (e : ∀ q, q < 1280 → nd' q = nd q) (hi : i < 64) (hk : k < 32) : nbR nd' i k = nbR nd i k := nb_row (fun q h1 h2 => e q (by omega)) (by rw [e _ (by omega)]; exact (w i hi).1) hk
theorem SimH.cg {L : Nat} {a com a' com' : Nat → Int64} {h h' : Nat → Nat → Nat} {ow nw ow' nw' : Nat → Nat} (hL0 : 96 ≤ L) (S : SimH L a com h ow nw) (ea : ∀ j, j < 8 * L → a' j = a j) (ec : ∀ j, j < 8 * L → com' j = com j) (eh : ∀ i, i < 64 → ∀ k, k < 32 → h' i k = h i k) (e2 : ∀ b, b < L → ow' b = ow b) (e3 : ∀ b, 59 ≤ b → b < L → ow b ≠ 0 → ∀ c, c < 64 → nw' (64 * b + c) = nw (64 * b + c)) : SimH L a' com' h' ow' nw' := by
  obtain ⟨s1, s2, s3, s4⟩ := S
  refine ⟨fun p hp => ?_, fun i hi k hk => ?_, fun n hn => ?_, fun b hb hL c hc => ?_⟩
  · rw [byt_w (ea _ (by omega)), byt_w (ec _ (by omega))]; exact s1 p hp
  · rw [byt_w (ea _ (by omega)), eh i hi k hk]; exact s2 i hi k hk
  · rw [ea _ (by omega), s3 n hn]
    by_cases q : n < L
    · rw [e2 n q]
    · rw [decide_eq_false (fun z => q z.1), decide_eq_false (fun z => q z.1)]
  · rw [byt_w (ea _ (by omega)), byt_w (ec _ (by omega)), s4 b hb hL c hc, e2 b hL]
    by_cases q : ow b = 0
    · rw [if_pos q, if_pos q]
    · rw [if_neg q, if_neg q, e3 b hb hL q c hc]
theorem ic_iff (L : Nat) (r : RSt) (b : Nat) : ∀ j, icG L r b j = true ↔ ∃ c, c < j ∧ boR L r b c ≠ rDn r (64 * b + c) := by
  intro j
  induction j with
  | zero => exact ⟨fun h => absurd (show false = true from h) (by decide), fun ⟨c, h, _⟩ => absurd h (Nat.not_lt_zero _)⟩
  | succ j ih =>
    show (icG L r b j || decide (boR L r b j ≠ rDn r (64 * b + j))) = true ↔ _
    rw [Bool.or_eq_true, ih, decide_eq_true_iff]
    constructor
    · rintro (⟨c, h1, h2⟩ | h)
      · exact ⟨c, by omega, h2⟩
      · exact ⟨j, by omega, h⟩
    · rintro ⟨c, h1, h2⟩
      by_cases e : c = j
      · subst e; exact Or.inr h2
      · exact Or.inl ⟨c, by omega, h2⟩
theorem dc_add (d : Nat → Bool) : ∀ m n b, dcG d (m + n) b = dcG d m b + dcG d n (b + m) := by
  intro m
  induction m with
  | zero => intro n b; rw [Nat.zero_add, Nat.add_zero]; exact (Nat.zero_add _).symm
  | succ m ih =>
    intro n b
    rw [show m + 1 + n = (m + n) + 1 by omega]
    show (if d b then 1 else 0) + dcG d (m + n) (b + 1) = (if d b then 1 else 0) + dcG d m (b + 1) + dcG d n (b + (m + 1))
    rw [ih n (b + 1), show b + 1 + m = b + (m + 1) by omega]; omega
theorem dc_0 (d : Nat → Bool) : ∀ n b, (∀ q, b ≤ q → q < b + n → d q = false) → dcG d n b = 0 := by
  intro n
  induction n with
  | zero => intro b _; rfl
  | succ n ih =>
    intro b h
    show (if d b then 1 else 0) + dcG d n (b + 1) = 0
    rw [h b (Nat.le_refl _) (by omega), ih (b + 1) (fun q h1 h2 => h q (by omega) (by omega))]; rfl
theorem ch_dct {L : Nat} {u : DSt} {r : RSt} {d : Nat → Bool} (hL0 : 96 ≤ L) (S : Sim L u r) (ho : ∀ b, b < 59 → rOw r b = 100) (hc : ∀ p, p < 64 * L → byt (dCom u) p = rDn r p) (hd : ∀ b, b < L → d b = dfI (dNow u) (dCom u) b 8) : chR L r = dct L d ∧ ∀ b, b < L → d b = (icR L r b && decide (25 ≤ b)) := by
  have ic : ∀ b, b < L → d b = icR L r b := fun b hb => by
    rw [hd b hb, Bool.eq_iff_iff, df_byt]
    unfold icR
    rw [ic_iff]
    constructor
    · rintro ⟨c, h1, h2⟩; exact ⟨c, h1, by rw [← now_bo hL0 S ho hc hb h1, ← hc _ (by omega)]; exact h2⟩
    · rintro ⟨c, h1, h2⟩; exact ⟨c, h1, by rw [now_bo hL0 S ho hc hb h1, hc _ (by omega)]; exact h2⟩
  have lo : ∀ b, b < 25 → d b = false := fun b hb => by
    rw [hd b (by omega)]
    cases q : dfI (dNow u) (dCom u) b 8 with
    | false => rfl
    | true =>
      obtain ⟨c, h1, h2⟩ := (df_byt _ _ _).mp q
      exact absurd (S.1 _ (by omega)) h2
  constructor
  · have : ∀ n b, b + n = L → chG L r n b = dcG d n b := by
      intro n
      induction n with
      | zero => intro b _; rfl
      | succ n ih =>
        intro b hb
        show (if icR L r b then 1 else 0) + chG L r n (b + 1) = (if d b then 1 else 0) + dcG d n (b + 1)
        rw [ic b (by omega), ih (b + 1) (by omega)]
    unfold chR dct
    rw [this (L - 25) 25 (by omega)]
    have e := dc_add d 25 (L - 25) 0
    rw [show 25 + (L - 25) = L by omega, dc_0 d 25 0 (fun q _ h2 => lo q (by omega))] at e
    rw [e]; simp
  · intro b hb
    by_cases q : 25 ≤ b
    · rw [decide_eq_true q, Bool.and_true]; exact ic b hb
    · rw [decide_eq_false q, Bool.and_false]; exact lo b (by omega)
theorem ch_le {L : Nat} {r : RSt} : ∀ n b (S : List Nat), (∀ q, b ≤ q → q < b + n → icR L r q = true → q ∈ S) → chG L r n b ≤ S.length := by
  intro n
  induction n with
  | zero => intro b S _; exact Nat.zero_le _
  | succ n ih =>
    intro b S h
    show (if icR L r b then 1 else 0) + chG L r n (b + 1) ≤ S.length
    by_cases q : icR L r b = true
    · have hm := h b (Nat.le_refl _) (by omega) q
      have := ih (b + 1) (S.erase b) (fun x h1 h2 h3 => (List.mem_erase_of_ne (by omega)).mpr (h x (by omega) (by omega) h3))
      rw [List.length_erase_of_mem hm] at this
      have := List.length_pos_of_mem hm
      rw [if_pos q]; omega
    · rw [if_neg q]; have := ih (b + 1) S (fun x h1 h2 h3 => h x (by omega) (by omega) h3); omega
theorem ch_bound {L : Nat} {r r' : RSt} (hC : ChB L r r') (w' : wfN (rNd r') L) (ho : ∀ b, b < 59 → rOw r b = 100) (ho' : ∀ b, b < 59 → rOw r' b = 100) (hd : ∀ b, 25 ≤ b → b < L → ∀ c, c < 64 → rDn r' (64 * b + c) = boR L r b c) (hL : L ≤ 768) (hL0 : 96 ≤ L) : chR L r' ≤ 24 := by
  obtain ⟨S, T, h1, h2, h3⟩ := hC
  have hl : (S ++ T.map (fun i => 25 + i / 2) ++ [57, 58]).length ≤ 24 := by
    rw [List.length_append, List.length_append, List.length_map]; show S.length + T.length + 2 ≤ 24; omega
  refine Nat.le_trans (ch_le (L - 25) 25 (S ++ T.map (fun i => 25 + i / 2) ++ [57, 58]) (fun b b1 b2 hb => ?_)) hl
  have bL : b < L := by omega
  obtain ⟨c, hc, hne⟩ := (ic_iff L r' b 64).mp hb
  rw [hd b b1 bL c hc] at hne
  rw [List.mem_append, List.mem_append, List.mem_map]
  by_cases q57 : b < 57
  · left; right
    have hi : 2 * (b - 25) + c / 32 < 64 := by omega
    refine ⟨2 * (b - 25) + c / 32, ?_, by show 25 + (2 * (b - 25) + c / 32) / 2 = b; omega⟩
    refine Classical.byContradiction (fun z => hne ?_)
    unfold boR
    rw [if_neg (by rw [ho' b (by omega)]; omega), if_pos q57, if_neg (by rw [ho b (by omega)]; omega), if_pos q57]
    refine nb_row (fun q g1 g2 => ?_) (w' _ hi).1 (by omega)
    refine Classical.byContradiction (fun y => z ?_)
    have := h3 q (by omega) y
    rw [show q / 20 = 2 * (b - 25) + c / 32 by omega] at this
    exact this
  · by_cases q59 : b < 59
    · right
      have : b = 57 ∨ b = 58 := by omega
      rcases this with rfl | rfl
      · exact List.mem_cons_self ..
      · exact List.mem_cons_of_mem _ (List.mem_cons_self ..)
    · left; left
      by_cases o' : rOw r' b = 0
      · exfalso; apply hne; rw [← hd b b1 bL c hc]; unfold boR; rw [if_pos (Or.inr o')]
      · by_cases o : rOw r b = 0
        · exact h2 b (by omega) bL o' (Or.inl o)
        · refine h2 b (by omega) bL o' (Or.inr ⟨c, hc, fun z => hne ?_⟩)
          unfold boR
          rw [if_neg (by omega), if_neg q57, if_neg q59, if_neg (by omega), if_neg q57, if_neg q59]; exact z
/-- commitsAll -/
theorem bo_dn {L : Nat} {r : RSt} {D : Nat → Nat} {b c : Nat} (h : D (64 * b + c) = rDn r (64 * b + c)) : boR L (qDn r D) b c = boR L r b c := by
  unfold boR
  show (if b < 25 ∨ rOw r b = 0 then D (64 * b + c) else _) = _
  rw [h]
theorem cmI_char (L : Nat) (r : RSt) (b : Nat) : ∀ j, j ≤ 64 → ∃ D, cmI L r b j = qDn r D ∧ ∀ q, D q = if 64 * b ≤ q ∧ q < 64 * b + j then boR L r b (q - 64 * b) else rDn r q := by
  intro j
  induction j with
  | zero => intro _; exact ⟨rDn r, rfl, fun q => by rw [if_neg (by omega)]⟩
  | succ j ih =>
    intro hj
    obtain ⟨D, h1, h2⟩ := ih (by omega)
    refine ⟨va_up D (64 * b + j) (boR L r b j), ?_, fun q => ?_⟩
    · show qDn (cmI L r b j) (va_up (rDn (cmI L r b j)) (64 * b + j) (boR L (cmI L r b j) b j)) = _
      rw [h1, bo_dn (by rw [h2, if_neg (by omega)])]
    · by_cases e : q = 64 * b + j
      · rw [e, va_up_self, if_pos (by omega)]; congr 1; omega
      · rw [va_up_ne _ _ e, h2]
        by_cases e2 : 64 * b ≤ q ∧ q < 64 * b + j
        · rw [if_pos e2, if_pos (by omega)]
        · rw [if_neg e2, if_neg (by omega)]
theorem cmO_char (L : Nat) : ∀ n b r, ∃ D, cmO L n b r = qDn r D ∧ ∀ q, D q = if 64 * b ≤ q ∧ q < 64 * (b + n) then boR L r (q / 64) (q % 64) else rDn r q := by
  intro n
  induction n with
  | zero => intro b r; exact ⟨rDn r, rfl, fun q => by rw [if_neg (by omega)]⟩
  | succ n ih =>
    intro b r
    obtain ⟨D1, a1, a2⟩ := cmI_char L r b 64 (Nat.le_refl _)
    obtain ⟨D2, b1, b2⟩ := ih (b + 1) (qDn r D1)
    refine ⟨D2, ?_, fun q => ?_⟩
    · show cmO L n (b + 1) (cmI L r b 64) = _
      rw [a1, b1]
    · rw [b2]
      by_cases e : 64 * (b + 1) ≤ q ∧ q < 64 * (b + 1 + n)
      · rw [if_pos e, if_pos (by omega), bo_dn]
        rw [a2, if_neg (by omega)]
      · rw [if_neg e]
        show D1 q = _
        rw [a2]
        by_cases e2 : 64 * b ≤ q ∧ q < 64 * b + 64
        · rw [if_pos e2, if_pos (by omega)]; congr 1
          · omega
          · omega
        · rw [if_neg e2, if_neg (by omega)]
theorem cm_char {L : Nat} (hL0 : 96 ≤ L) (r : RSt) : ∃ D, cmR L r = qKo (qKn (qDn r D) (cpM (rNd r) (rKn r) 1280)) (cpM (rOw r) (rKo r) 768) ∧ ∀ q, D q = if 1600 ≤ q ∧ q < 64 * L then boR L r (q / 64) (q % 64) else rDn r q := by
  obtain ⟨D, h1, h2⟩ := cmO_char L (L - 25) 25 r
  refine ⟨D, ?_, fun q => ?_⟩
  · unfold cmR; rw [h1]; rfl
  · rw [h2]
    by_cases e : 1600 ≤ q ∧ q < 64 * L
    · rw [if_pos e, if_pos (by omega)]
    · rw [if_neg e, if_neg (by omega)]
/-- what a commit keeps -/
theorem cm_kept {L : Nat} {u : DSt} {r : RSt} {com : Nat → Int64} (hL0 : 96 ≤ L) (hL : L ≤ 768) (S : Sim L u r) (W : WFr L r) (hc : ∀ p, p < 64 * L → byt (dCom u) p = rDn r p) (hdn : ∀ q, rDn r q < 256) (e : ∀ j, j < 8 * L → com j = dNow u j) :
    SimH L com com (nbR (rKn (cmR L r))) (rKo (cmR L r)) (rDn (cmR L r)) ∧ WFt L (rKn (cmR L r)) (rKo (cmR L r)) (rDn (cmR L r)) ∧ (∀ p, p < 64 * L → byt com p = rDn (cmR L r) p) ∧ ∀ b, 25 ≤ b → b < L → ∀ c, c < 64 → rDn (cmR L r) (64 * b + c) = boR L r b c := by
  obtain ⟨D, h1, h2⟩ := cm_char hL0 r
  have ho := W.1.1.2.1
  rw [h1]
  have k1 : ∀ q, q < 1280 → cpM (rNd r) (rKn r) 1280 q = rNd r q := fun q hq => if_pos hq
  have k2 : ∀ b, b < L → cpM (rOw r) (rKo r) 768 b = rOw r b := fun b hb => if_pos (by omega)
  have k3 : ∀ p, p < 64 * L → byt com p = D p := fun p hp => by
    rw [byt_w (e _ (by omega)), h2]
    by_cases q : 1600 ≤ p ∧ p < 64 * L
    · rw [if_pos q, ← now_bo hL0 S ho hc (by omega) (by omega)]; congr 1; omega
    · rw [if_neg q, S.1 p (by omega)]; exact hc p hp
  have k4 : ∀ b, 25 ≤ b → b < L → ∀ c, c < 64 → D (64 * b + c) = boR L r b c := fun b b1 b2 c hc => by
    rw [h2, if_pos (by omega), show (64 * b + c) / 64 = b by omega, show (64 * b + c) % 64 = c by omega]
  refine ⟨⟨fun _ _ => rfl, fun i hi k hk => ?_, fun n hn => ?_, fun b hb hbL c hcc => ?_⟩, WFt.cg hL0 W k1 k2 (fun b hb hbL hob c hcc => ?_) (fun q => ?_), k3, k4⟩
  · show byt com (1600 + 32 * i + k) = nbR (cpM (rNd r) (rKn r) 1280) i k
    rw [byt_w (e _ (by omega)), nb_cg W.1.1.1 k1 hi hk]; exact S.2.1 i hi k hk
  · show (nn (com (456 + n / 64))).testBit (n % 64) = decide (n < L ∧ 0 < cpM (rOw r) (rKo r) 768 n)
    rw [e _ (by omega), S.2.2.1 n hn]
    by_cases q : n < L
    · rw [k2 n q]
    · rw [decide_eq_false (fun z => q z.1), decide_eq_false (fun z => q z.1)]
  · show byt com (64 * b + c) = if cpM (rOw r) (rKo r) 768 b = 0 then byt com (64 * b + c) else D (64 * b + c)
    rw [← k3 _ (by omega), ite_self]
  · show D (64 * b + c) = rNw r (64 * b + c)
    rw [← k3 _ (by omega), byt_w (e _ (by omega)), S.2.2.2 b hb hbL c hcc, if_neg hob]
  · show D q < 256
    by_cases z : 1600 ≤ q ∧ q < 64 * L
    · rw [← k3 q z.2]; exact byt_lt _ _
    · rw [h2, if_neg z]; exact hdn q
theorem cm_B {L : Nat} {r : RSt} (hL0 : 96 ≤ L) (B : rB r) : rB (cmR L r) := by
  obtain ⟨D, h1, h2⟩ := cm_char hL0 r
  rw [h1]
  intro q
  refine ⟨(B q).1, (B q).2.1, (B q).2.2.1, (B q).2.2.2.1, cp_B (fun q => (B q).2.1) (fun q => (B q).2.2.2.2.1) q, cp_B (fun q => (B q).2.2.1) (fun q => (B q).2.2.2.2.2.1) q, ?_, (B q).2.2.2.2.2.2.2⟩
  show D q < 65536
  rw [h2]; split
  · exact boR_lt B _ _
  · exact (B q).2.2.2.2.2.2.1
