/-! READINGS: the class's against the reference's. -/
section RD2
variable {L : Nat} {u : DSt} {r : RSt}
theorem R_gt {i c : Nat} (hL0 : 96 ≤ L) (hL : L ≤ 768) (S : Sim L u r) (W : WFb L (rNd r) (rOw r)) (hi : i < 64) (hc : c < 64 * bsR (rNd r) i) : bN L (dNow u) (plc L (dNow u) i c) = gt (rNd r) (rNw r) i c := by
  rw [R_pl S hL0 hL hi W.1, if_pos hc]
  have w := W.2.2.1 i hi (c / 64) (by omega)
  rw [bN_in (by omega) hL, S.2.2.2 _ w.1 w.2.1 _ (by omega), if_neg (by omega)]; rfl
theorem pl_add {i e k : Nat} (hL0 : 96 ≤ L) (hL : L ≤ 768) (S : Sim L u r) (W : WFb L (rNd r) (rOw r)) (hi : i < 64) (hc : 4 * e + 4 ≤ 64 * bsR (rNd r) i) (hk : k < 4) : plc L (dNow u) i (4 * e) + nI k = plc L (dNow u) i (4 * e + k) := by
  rw [R_pl S hL0 hL hi W.1, R_pl S hL0 hL hi W.1, if_pos (by omega), if_pos (by omega), nI_add, show (4 * e + k) / 64 = 4 * e / 64 by omega]; congr 1; omega
theorem R_nm {d e : Nat} (hL0 : 96 ≤ L) (hL : L ≤ 768) (S : Sim L u r) (W : WFb L (rNd r) (rOw r)) (hd : d < 64) (hc : 4 * e + 4 ≤ 64 * bsR (rNd r) d) : pN L (dNow u) (plc L (dNow u) d (4 * e)) = nmE (rNd r) (rNw r) d e := by
  unfold pN nmE
  rw [pl_add hL0 hL S W hd hc (by decide), R_gt hL0 hL S W hd (by omega), R_gt hL0 hL S W hd (by omega), Nat.mul_comm 256]
theorem R_in {d e : Nat} (hL0 : 96 ≤ L) (hL : L ≤ 768) (S : Sim L u r) (W : WFb L (rNd r) (rOw r)) (hd : d < 64) (hc : 4 * e + 4 ≤ 64 * bsR (rNd r) d) : ino L (dNow u) (plc L (dNow u) d (4 * e)) = inE (rNd r) (rNw r) d e := by
  unfold ino inE
  rw [pl_add hL0 hL S W hd hc (by decide), R_gt hL0 hL S W hd (by omega)]
theorem ent_G {d w : Nat} (hL0 : 96 ≤ L) (hL : L ≤ 768) (S : Sim L u r) (W : WFb L (rNd r) (rOw r)) (hd : d < 64) : ∀ n e, 4 * (e + n) ≤ 64 * bsR (rNd r) d →
    ((eoG r d w n e = -1 ∧ enG L (dNow u) d w n (4 * e) = -1 ∧ ∀ j, e ≤ j → j < e + n → nmE (rNd r) (rNw r) d j ≠ w) ∨ ∃ j, e ≤ j ∧ j < e + n ∧ eoG r d w n e = nI j ∧ enG L (dNow u) d w n (4 * e) = plc L (dNow u) d (4 * j) ∧ nmE (rNd r) (rNw r) d j = w) := by
  intro n
  induction n with
  | zero => intro e _; exact Or.inl ⟨rfl, rfl, fun j h1 h2 => absurd h2 (by omega)⟩
  | succ n ih =>
    intro e h
    unfold eoG enG
    rw [R_nm hL0 hL S W hd (by omega)]
    by_cases c : nmE (rNd r) (rNw r) d e = w
    · rw [if_pos (show nmR r d e = w from c), if_pos c]
      exact Or.inr ⟨e, Nat.le_refl _, by omega, rfl, rfl, c⟩
    · rw [if_neg (show ¬ nmR r d e = w from c), if_neg c]
      rcases ih (e + 1) (by omega) with ⟨h1, h2, h3⟩ | ⟨j, h1, h2, h3, h4, h5⟩
      · refine Or.inl ⟨h1, h2, fun j q1 q2 => ?_⟩
        by_cases z : j = e
        · subst z; exact c
        · exact h3 j (by omega) (by omega)
      · exact Or.inr ⟨j, by omega, by omega, h3, h4, h5⟩
theorem R_ent {d : Nat} (hL0 : 96 ≤ L) (hL : L ≤ 768) (S : Sim L u r) (W : WFk L (rNd r) (rOw r) (rNw r)) (hd : d < 64) (hk : rNd r (20 * d) = 2) (w : Nat) :
    ((eoR r d w = -1 ∧ ent L (dNow u) d w = -1 ∧ ∀ j, j < rNd r (20 * d + 1) / 4 → nmE (rNd r) (rNw r) d j ≠ w) ∨ ∃ j, j < rNd r (20 * d + 1) / 4 ∧ eoR r d w = nI j ∧ ent L (dNow u) d w = plc L (dNow u) d (4 * j) ∧ nmE (rNd r) (rNw r) d j = w) := by
  have hs := W.sz hL hd; have hb := W.bs hd; have hm := (W.2.1 d hd).2.2.2 hk
  unfold eoR ent
  rw [R_S S hL0 hL hd (by omega), show (rNd r (20 * d + 1) + 3 - 0) / 4 = rNd r (20 * d + 1) / 4 by omega]
  rcases ent_G (w := w) hL0 hL S W.1 hd (rNd r (20 * d + 1) / 4) 0 (by omega) with ⟨h1, h2, h3⟩ | ⟨j, h1, h2, h3, h4, h5⟩
  · exact Or.inl ⟨h1, h2, fun j q => h3 j (Nat.zero_le _) (by omega)⟩
  · exact Or.inr ⟨j, by omega, h3, h4, h5⟩
theorem em_G {d : Nat} (hL0 : 96 ≤ L) (hL : L ≤ 768) (S : Sim L u r) (W : WFb L (rNd r) (rOw r)) (hd : d < 64) : ∀ n e, 4 * (e + n) ≤ 64 * bsR (rNd r) d → (emG L (dNow u) d n (4 * e) = true ↔ ∀ j, e ≤ j → j < e + n → nmE (rNd r) (rNw r) d j = 0) := by
  intro n
  induction n with
  | zero => intro e _; exact ⟨fun _ j h1 h2 => absurd h2 (by omega), fun _ => rfl⟩
  | succ n ih =>
    intro e h
    unfold emG
    rw [R_nm hL0 hL S W hd (by omega)]
    by_cases c : nmE (rNd r) (rNw r) d e = 0
    · rw [if_pos c, show 4 * e + 4 = 4 * (e + 1) by omega, ih (e + 1) (by omega)]
      constructor
      · intro q j h1 h2
        by_cases z : j = e
        · subst z; exact c
        · exact q j (by omega) (by omega)
      · intro q j h1 h2; exact q j (by omega) (by omega)
    · rw [if_neg c]; exact ⟨fun q => (by cases q), fun q => absurd (q e (Nat.le_refl _) (by omega)) c⟩
theorem ie_G (r : RSt) (d : Nat) : ∀ n, ieG r d n = true ↔ ∀ j, j < n → nmE (rNd r) (rNw r) d j = 0 := by
  intro n
  induction n with
  | zero => exact ⟨fun _ j h => absurd h (Nat.not_lt_zero _), fun _ => rfl⟩
  | succ n ih =>
    show (ieG r d n && decide (nmR r d n = 0)) = true ↔ _
    rw [Bool.and_eq_true, ih, decide_eq_true_iff]
    constructor
    · rintro ⟨h1, h2⟩ j hj
      by_cases z : j = n
      · subst z; exact h2
      · exact h1 j (by omega)
    · intro h; exact ⟨fun j hj => h j (by omega), h n (by omega)⟩
theorem R_emp {d : Nat} (hL0 : 96 ≤ L) (hL : L ≤ 768) (S : Sim L u r) (W : WFk L (rNd r) (rOw r) (rNw r)) (hd : d < 64) (hk : rNd r (20 * d) = 2) : emp L (dNow u) d = ieR r d := by
  have hs := W.sz hL hd; have hb := W.bs hd; have hm := (W.2.1 d hd).2.2.2 hk
  have e1 := em_G hL0 hL S W.1 hd (rNd r (20 * d + 1) / 4) 0 (by omega)
  have e2 := ie_G r d (rNd r (20 * d + 1) / 4)
  unfold emp ieR
  rw [R_S S hL0 hL hd (by omega), show (rNd r (20 * d + 1) + 3 - 0) / 4 = rNd r (20 * d + 1) / 4 by omega]
  rw [Bool.eq_iff_iff, show (0 : Nat) = 4 * 0 from rfl, e1, e2]
  exact ⟨fun h j hj => h j (Nat.zero_le _) (by omega), fun h j _ hj => h j (by omega)⟩
theorem R_lk (hL0 : 96 ≤ L) (hL : L ≤ 768) (S : Sim L u r) : ∀ n i, i + n = 64 → ilG L (dNow u) n i = if fkG (rNd r) n i = 64 then -1 else nI (fkG (rNd r) n i) := by
  intro n
  induction n with
  | zero => intro i hi; unfold ilG fkG; rw [if_pos (by omega)]
  | succ n ih =>
    intro i hi
    unfold ilG fkG
    rw [R_K S hL0 hL (by omega)]
    by_cases e : rNd r (20 * i) = 0
    · rw [if_pos e, if_neg (show ¬ 0 < rNd r (20 * i) by omega), if_neg (show ¬ i = 64 by omega)]
    · rw [if_neg e, if_pos (Nat.pos_of_ne_zero e)]; exact ih (i + 1) (by omega)
theorem R_ilf (hL0 : 96 ≤ L) (hL : L ≤ 768) (S : Sim L u r) : ilf L (dNow u) = if fkR (rNd r) = 64 then -1 else nI (fkR (rNd r)) := R_lk hL0 hL S 64 0 rfl
theorem fk_of {f : Nat → Nat} : ∀ n i, i + n = 64 → fkG f n i ≠ 64 → i ≤ fkG f n i ∧ fkG f n i < 64 ∧ f (20 * fkG f n i) = 0 := by
  intro n
  induction n with
  | zero => intro i hi h; unfold fkG at h; exact absurd (by omega) h
  | succ n ih =>
    intro i hi h
    unfold fkG at h ⊢
    by_cases c : 0 < f (20 * i)
    · rw [if_pos c] at h ⊢
      have := ih (i + 1) (by omega) h
      exact ⟨by omega, this.2⟩
    · rw [if_neg c] at h ⊢; exact ⟨Nat.le_refl _, by omega, by omega⟩
theorem R_kd {i : Nat} (hL0 : 96 ≤ L) (hL : L ≤ 768) (S : Sim L u r) (hi : i < 64) (h2 : rNd r (20 * i) ≤ 2) : kfl (iK L (dNow u) i) 2 = bdR r i := by
  rw [R_K S hL0 hL hi]; unfold kfl bdR
  by_cases c0 : rNd r (20 * i) = 0
  · rw [if_pos c0, if_pos c0]
  · rw [if_neg c0, if_neg c0]
    by_cases c1 : rNd r (20 * i) = 1
    · rw [if_pos c1, if_neg (by omega)]
    · rw [if_neg c1, if_pos (by omega)]
theorem R_kf {i : Nat} (hL0 : 96 ≤ L) (hL : L ≤ 768) (S : Sim L u r) (hi : i < 64) (h2 : rNd r (20 * i) ≤ 2) : kfl (iK L (dNow u) i) 1 = bfR r i := by
  rw [R_K S hL0 hL hi]; unfold kfl bfR
  by_cases c0 : rNd r (20 * i) = 0
  · rw [if_pos c0, if_pos c0]
  · rw [if_neg c0, if_neg c0]
    by_cases c1 : rNd r (20 * i) = 2
    · rw [if_pos c1, if_neg (by omega)]
    · rw [if_neg c1, if_pos (by omega)]
theorem bd_iff {i : Nat} (h2 : rNd r (20 * i) ≤ 2) : 0 ≤ bdR r i ↔ rNd r (20 * i) = 2 := by
  unfold bdR
  by_cases c0 : rNd r (20 * i) = 0
  · rw [if_pos c0]; exact ⟨fun h => absurd h (by decide), fun h => absurd h (by omega)⟩
  · rw [if_neg c0]
    by_cases c1 : rNd r (20 * i) = 1
    · rw [if_pos c1]; exact ⟨fun h => absurd h (by decide), fun h => absurd h (by omega)⟩
    · rw [if_neg c1]; exact ⟨fun _ => by omega, fun _ => by decide⟩
theorem bf_iff {i : Nat} (h2 : rNd r (20 * i) ≤ 2) : 0 ≤ bfR r i ↔ rNd r (20 * i) = 1 := by
  unfold bfR
  by_cases c0 : rNd r (20 * i) = 0
  · rw [if_pos c0]; exact ⟨fun h => absurd h (by decide), fun h => absurd h (by omega)⟩
  · rw [if_neg c0]
    by_cases c1 : rNd r (20 * i) = 2
    · rw [if_pos c1]; exact ⟨fun h => absurd h (by decide), fun h => absurd h (by omega)⟩
    · rw [if_neg c1]; exact ⟨fun _ => by omega, fun _ => by decide⟩
end RD2
