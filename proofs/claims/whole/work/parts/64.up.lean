/-! THE WAY UP. -/
theorem pn_G (r : RSt) (i d : Nat) : ∀ n e, pnG r i d n e = true ↔ ∃ j, e ≤ j ∧ j < e + n ∧ 1 ≤ nmE (rNd r) (rNw r) d j ∧ inE (rNd r) (rNw r) d j = i := by
  intro n
  induction n with
  | zero => intro e; exact ⟨fun h => (by cases h), fun ⟨j, h1, h2, _⟩ => absurd h2 (by omega)⟩
  | succ n ih =>
    intro e
    show (if 0 < nmR r d e ∧ iaR r d e = i then true else pnG r i d n (e + 1)) = true ↔ _
    by_cases c : 0 < nmR r d e ∧ iaR r d e = i
    · rw [if_pos c]; exact ⟨fun _ => ⟨e, Nat.le_refl _, by omega, c.1, c.2⟩, fun _ => rfl⟩
    · rw [if_neg c, ih (e + 1)]
      constructor
      · rintro ⟨j, h1, h2, h3⟩; exact ⟨j, by omega, by omega, h3⟩
      · rintro ⟨j, h1, h2, h3⟩
        by_cases z : j = e
        · subst z; exact absurd h3 c
        · exact ⟨j, by omega, by omega, h3⟩
theorem pn_R {r : RSt} {i d : Nat} (hd : d < 64) : (rNd r (20 * d) = 2 ∧ pnR r i d = true) ↔ ∃ e w, PE (rNd r) (rNw r) d e w i := by
  unfold pnR
  rw [pn_G]
  constructor
  · rintro ⟨h0, j, h1, h2, h3, h4⟩; exact ⟨j, _, hd, h0, by omega, rfl, h3, h4⟩
  · rintro ⟨e, w, h1, h2, h3, h4, h5, h6⟩; exact ⟨h2, e, Nat.zero_le _, by omega, by omega, h6⟩
theorem pa_G (r : RSt) (i : Nat) : ∀ n d, d + n = 64 → (∃ j e w, paG r i n d = nI j ∧ PE (rNd r) (rNw r) j e w i) ∨ (paG r i n d = -1 ∧ ∀ j e w, d ≤ j → ¬ PE (rNd r) (rNw r) j e w i) := by
  intro n
  induction n with
  | zero => intro d hd; exact Or.inr ⟨rfl, fun j e w h1 h2 => absurd h2.1 (by omega)⟩
  | succ n ih =>
    intro d hd
    unfold paG
    by_cases c : rNd r (20 * d) = 2 ∧ pnR r i d = true
    · rw [if_pos c]
      obtain ⟨e, w, h⟩ := (pn_R (by omega)).mp c
      exact Or.inl ⟨d, e, w, rfl, h⟩
    · rw [if_neg c]
      rcases ih (d + 1) (by omega) with h | ⟨h1, h2⟩
      · exact Or.inl h
      · refine Or.inr ⟨h1, fun j e w q1 q2 => ?_⟩
        by_cases z : j = d
        · subst z; exact c ((pn_R (by omega)).mpr ⟨e, w, q2⟩)
        · exact h2 j e w (by omega) q2
theorem pa_R {r : RSt} (T : TrD (KE (rNd r)) (PE (rNd r) (rNw r)) 0) (i : Nat) : (∃ j e w, paR r i = nI j ∧ PE (rNd r) (rNw r) j e w i) ∨ (paR r i = -1 ∧ ∀ j e w, ¬ PE (rNd r) (rNw r) j e w i) := by
  unfold paR
  by_cases h : 0 < i
  · rw [if_pos h]
    rcases pa_G r i 64 0 rfl with q | ⟨q1, q2⟩
    · exact Or.inl q
    · exact Or.inr ⟨q1, fun j e w => q2 j e w (Nat.zero_le _)⟩
  · rw [if_neg h]; exact Or.inr ⟨rfl, fun j e w q => absurd (T.2.1 _ _ _ _ q).2.2.2.1 (by omega)⟩
theorem up_bl {r : RSt} {i : Nat} (T : TrD (KE (rNd r)) (PE (rNd r) (rNw r)) 0) (hi : i < 64) : ∀ n x, x < 64 → (upG r i n (nI x) = true ↔ ∃ m, m < n ∧ BlN (PE (rNd r) (rNw r)) i m x) := by
  intro n
  induction n with
  | zero => intro x _; exact ⟨fun h => (by cases h), fun ⟨m, h, _⟩ => absurd h (Nat.not_lt_zero _)⟩
  | succ n ih =>
    intro x hx
    unfold upG
    rw [if_neg (nI_pos (by omega)), nI_clamp (by omega)]
    by_cases c : x = i
    · rw [if_pos (by rw [c])]; exact ⟨fun _ => ⟨0, by omega, c⟩, fun _ => rfl⟩
    · rw [if_neg (fun q => c ((nI_eq (by omega) (by omega)).mp q))]
      rcases pa_R T x with ⟨j, e, w, h1, h2⟩ | ⟨h1, h2⟩
      · rw [h1, ih j h2.1]
        constructor
        · rintro ⟨m, q1, q2⟩; exact ⟨m + 1, by omega, j, e, w, h2, q2⟩
        · rintro ⟨m, q1, q2⟩
          rcases m with _ | m
          · exact absurd q2 c
          · obtain ⟨j', e', w', q3, q4⟩ := q2
            have := (T.2.2.1 _ _ _ _ _ _ _ q3 h2).1
            subst this; exact ⟨m, by omega, q4⟩
      · rw [h1, up_n (by decide)]
        constructor
        · intro h; cases h
        · rintro ⟨m, q1, q2⟩
          rcases m with _ | m
          · exact absurd q2 c
          · obtain ⟨j', e', w', q3, q4⟩ := q2; exact absurd q3 (h2 _ _ _)
theorem up_end {r : RSt} {i : Nat} (T : TrD (KE (rNd r)) (PE (rNd r) (rNw r)) 0) {ρ : Nat → Nat} (hρ : ∀ d e w i, PE (rNd r) (rNw r) d e w i → ρ d < ρ i) : ∀ n x, x < 64 → ρ x + 2 ≤ n → upE r i n (nI x) = true := by
  intro n
  induction n with
  | zero => intro x _ h; omega
  | succ n ih =>
    intro x hx h
    unfold upE
    rw [if_neg (nI_pos (by omega)), nI_clamp (by omega)]
    by_cases c : nI x = nI i
    · rw [if_pos c]
    · rw [if_neg c]
      rcases pa_R T x with ⟨j, e, w, h1, h2⟩ | ⟨h1, h2⟩
      · rw [h1]; have := hρ _ _ _ _ h2; exact ih j h2.1 (by omega)
      · rw [h1]
        obtain ⟨n', rfl⟩ : ∃ n', n = n' + 1 := ⟨n - 1, by omega⟩
        unfold upE; rw [if_pos (by decide)]
theorem up_all {r : RSt} {i d : Nat} (T : TrD (KE (rNd r)) (PE (rNd r) (rNw r)) 0) (hd : d < 64) : upE r i 65 (nI d) = true := by
  obtain ⟨ρ, h1, h2⟩ := tr_rk T
  exact up_end T h1 65 d hd (by have := h2 d hd; omega)
theorem up_is {r : RSt} {i d : Nat} (T : TrD (KE (rNd r)) (PE (rNd r) (rNw r)) 0) (hi : i < 64) (hd : d < 64) : upG r i 65 (nI d) = true ↔ ∃ m, BlN (PE (rNd r) (rNw r)) i m d := by
  rw [up_bl T hi 65 d hd]
  obtain ⟨ρ, h1, h2⟩ := tr_rk T
  constructor
  · rintro ⟨m, _, q⟩; exact ⟨m, q⟩
  · rintro ⟨m, q⟩; have := bl_rk h1 m d q; have := h2 d hd; exact ⟨m, by omega, q⟩
/-- fillParents -/
theorem fi_G {L : Nat} {u : DSt} {r : RSt} {d x : Nat} (hL0 : 96 ≤ L) (hL : L ≤ 768) (S : Sim L u r) (W : WFb L (rNd r) (rOw r)) (hd : d < 64) (hx1 : 0 < x) (hx : x < 64) : ∀ n e f, 4 * (e + n) ≤ 64 * bsR (rNd r) d →
    ((∃ j, e ≤ j ∧ j < e + n ∧ inE (rNd r) (rNw r) d j = x) → fiG L (dNow u) d n (4 * e) f x = nI d) ∧ ((∀ j, e ≤ j → j < e + n → inE (rNd r) (rNw r) d j ≠ x) → fiG L (dNow u) d n (4 * e) f x = f x) := by
  intro n
  induction n with
  | zero => intro e f _; exact ⟨fun ⟨j, h1, h2, _⟩ => absurd h2 (by omega), fun _ => rfl⟩
  | succ n ih =>
    intro e f h
    unfold fiG
    rw [R_in hL0 hL S W hd (by omega), show 4 * e + 4 = 4 * (e + 1) by omega]
    obtain ⟨i1, i2⟩ := ih (e + 1) (if 0 < inE (rNd r) (rNw r) d e ∧ inE (rNd r) (rNw r) d e < 64 then va_up f (inE (rNd r) (rNw r) d e) (nI d) else f) (by omega)
    constructor
    · rintro ⟨j, h1, h2, h3⟩
      by_cases q : ∃ j, e + 1 ≤ j ∧ j < e + 1 + n ∧ inE (rNd r) (rNw r) d j = x
      · exact i1 q
      · rw [i2 (fun j q1 q2 q3 => q ⟨j, q1, q2, q3⟩)]
        have : j = e := Classical.byContradiction (fun z => q ⟨j, by omega, by omega, h3⟩)
        subst this
        rw [h3, if_pos ⟨hx1, hx⟩, va_up_self]
    · intro q
      rw [i2 (fun j q1 q2 => q j (by omega) (by omega))]
      have := q e (Nat.le_refl _) (by omega)
      split
      · exact va_up_ne _ _ (fun z => this z.symm)
      · rfl
theorem fo_G {L : Nat} {u : DSt} {r : RSt} {x d0 e0 w0 : Nat} (hL0 : 96 ≤ L) (hL : L ≤ 768) (S : Sim L u r) (W : WFt L (rNd r) (rOw r) (rNw r)) (hp : PE (rNd r) (rNw r) d0 e0 w0 x) : ∀ n d f, d + n = 64 → (d ≤ d0 → foG L (dNow u) n d f x = nI d0) ∧ (d0 < d → foG L (dNow u) n d f x = f x) := by
  have hx := W.2.2.2.1 _ _ _ _ hp
  have step : ∀ d f, d < 64 → fiG L (dNow u) d ((fsz L (dNow u) d + 3 - 0) / 4) 0 f x = if d = d0 then nI d0 else f x := by
    intro d f hd
    have hs := W.1.sz hL hd; have hb := W.1.bs hd
    unfold fsz
    rw [R_K S hL0 hL hd, R_S S hL0 hL hd (by omega)]
    by_cases k : rNd r (20 * d) = 2
    · have hm := (W.1.2.1 d hd).2.2.2 k
      rw [if_pos k, show (rNd r (20 * d + 1) + 3 - 0) / 4 = rNd r (20 * d + 1) / 4 by omega]
      obtain ⟨i1, i2⟩ := fi_G hL0 hL S W.1.1 hd hx.2.2.2.1 hx.2.2.2.2.1 (rNd r (20 * d + 1) / 4) 0 f (by omega)
      by_cases q : d = d0
      · rw [if_pos q]; subst q; exact i1 ⟨e0, Nat.zero_le _, by have := hp.2.2.1; omega, hp.2.2.2.2.2⟩
      · rw [if_neg q]
        refine i2 (fun j _ h2 h3 => q ?_)
        by_cases nz : nmE (rNd r) (rNw r) d j = 0
        · have := W.2.1 d hd k j (by omega) nz; omega
        · exact (W.2.2.2.2.1 _ _ _ _ _ _ _ ⟨hd, k, by omega, rfl, by omega, h3⟩ hp).1
    · rw [if_neg k, if_neg (fun q => k (by rw [q]; exact hp.2.1))]; rfl
  intro n
  induction n with
  | zero => intro d f hd; exact ⟨fun h => absurd hp.1 (by omega), fun _ => rfl⟩
  | succ n ih =>
    intro d f hd
    unfold foG
    obtain ⟨i1, i2⟩ := ih (d + 1) (fiG L (dNow u) d ((fsz L (dNow u) d + 3 - 0) / 4) 0 f) (by omega)
    constructor
    · intro h
      by_cases q : d = d0
      · rw [i2 (by omega), step d f (by omega), if_pos q]
      · exact i1 (by omega)
    · intro h; rw [i2 (by omega), step d f (by omega), if_neg (by omega)]
theorem wi_bl {r : RSt} {o : Nat} {F : Nat → Int32} (T : TrD (KE (rNd r)) (PE (rNd r) (rNw r)) 0) (hF : ∀ d e w x, PE (rNd r) (rNw r) d e w x → F x = nI d) {ρ : Nat → Nat} (hρ : ∀ d e w i, PE (rNd r) (rNw r) d e w i → ρ d < ρ i) (ho1 : 1 ≤ o) (ho : o < 64) : ∀ n x, x < 64 → rNd r (20 * x) = 2 → ρ x < n → (wiG F (nI o) n (nI x) = nI o ↔ ∃ m, BlN (PE (rNd r) (rNw r)) o m x) := by
  intro n
  induction n with
  | zero => intro x _ _ h; omega
  | succ n ih =>
    intro x hx hk h
    unfold wiG
    by_cases c0 : x = o
    · rw [if_pos (Or.inr (by rw [c0]))]; exact ⟨fun _ => ⟨0, c0⟩, fun _ => by rw [c0]⟩
    · by_cases c1 : x = 0
      · rw [if_pos (Or.inl (by rw [c1]; rfl))]
        constructor
        · intro q; exact absurd ((nI_eq (by omega) (by omega)).mp q) c0
        · rintro ⟨m, q⟩
          rcases m with _ | m
          · exact absurd q c0
          · obtain ⟨d, e, w, q1, q2⟩ := q; exact absurd (T.2.1 _ _ _ _ q1).2.2.2.1 (by omega)
      · obtain ⟨d, e, w, hp⟩ := T.2.2.2.2.2.1 x (by omega) hx (by show rNd r (20 * x) ≠ 0; omega) (by omega)
        have p2 := T.2.1 _ _ _ _ hp
        rw [if_neg (by rintro (q | q); exact c1 ((nI_eq (a := x) (b := 0) (by omega) (by omega)).mp q); exact c0 ((nI_eq (by omega) (by omega)).mp q))]
        rw [if_pos ⟨by have := nI_lt (a := 0) (b := x) (by omega) (by omega); exact this, nI_lt hx (by decide)⟩, nI_clamp (by omega), hF _ _ _ _ hp]
        rw [ih d p2.1 p2.2.1 (by have := hρ _ _ _ _ hp; omega)]
        constructor
        · rintro ⟨m, q⟩; exact ⟨m + 1, d, e, w, hp, q⟩
        · rintro ⟨m, q⟩
          rcases m with _ | m
          · exact absurd q c0
          · obtain ⟨d', e', w', q1, q2⟩ := q
            have := (T.2.2.1 _ _ _ _ _ _ _ q1 hp).1
            subst this; exact ⟨m, q2⟩
theorem R_wit {L : Nat} {u : DSt} {r : RSt} {f : Nat → Int32} {d i : Nat} (hL0 : 96 ≤ L) (hL : L ≤ 768) (S : Sim L u r) (W : WFt L (rNd r) (rOw r) (rNw r)) (hd : d < 64) (hk : rNd r (20 * d) = 2) (h1 : 1 ≤ i) (hi : i < 64) : wit L (dNow u) f d (nI i) = upG r i 65 (nI d) := by
  obtain ⟨ρ, r1, r2⟩ := tr_rk W.2.2
  unfold wit
  rw [Bool.eq_iff_iff, decide_eq_true_iff, up_is W.2.2 hi hd]
  exact wi_bl W.2.2 (fun d e w x hp => (fo_G hL0 hL S W hp 64 0 f rfl).1 (Nat.zero_le _)) r1 h1 hi 64 d hd hk (r2 d hd)
