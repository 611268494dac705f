/-! remove, move. -/
theorem gv_nw (r : RSt) (i : Nat) (x : Nat → Nat) : gvR (qNw r x) i = qNw (gvR r i) x := by
  unfold gvR
  by_cases h : 0 < rNd (gvW r i) (20 * i + 4 + 2 * (lX r i - 1))
  · rw [if_pos h, if_pos (show 0 < rNd (gvW (qNw r x) i) (20 * i + 4 + 2 * (lX (qNw r x) i - 1)) from h)]; rfl
  · rw [if_neg h, if_neg (show ¬ 0 < rNd (gvW (qNw r x) i) (20 * i + 4 + 2 * (lX (qNw r x) i - 1)) from h)]; rfl
theorem frG_nw (i : Nat) (x : Nat → Nat) : ∀ m r, frG i m (qNw r x) = qNw (frG i m r) x := by
  intro m
  induction m with
  | zero => intro r; rfl
  | succ m ih => intro r; show frG i m (gvR (qNw r x) i) = qNw (frG i m (gvR r i)) x; rw [gv_nw, ih]
theorem fr_nw (r : RSt) (i : Nat) (x : Nat → Nat) : frR (qNw r x) i = qNw (frR r i) x := by
  show qNd (frG i (bsR (rNd r) i) (qNw r x)) (znM (rNd (frG i (bsR (rNd r) i) (qNw r x))) (20 * i) 20) = _
  rw [frG_nw]; rfl
theorem en_fr {L : Nat} {r : RSt} {d e v : Nat} (hdv : d ≠ v) (C : FrC L r (frR r v) v) : enR (frR r v) d e 0 0 = frR (enR r d e 0 0) v := by
  have bk : ∀ t, bkR (rNd (frR r v)) d t = bkR (rNd r) d t := fun t => bkR_row (fun q h1 h2 => C.2.1 q (by omega))
  have h : rNw (enR (frR r v) d e 0 0) = rNw (enR r d e 0 0) := by
    show va_up (va_up (va_up (rNw (frR r v)) (64 * bkR (rNd (frR r v)) d (4 * e / 64) + 4 * e % 64) _) (64 * bkR (rNd (frR r v)) d ((4 * e + 1) / 64) + (4 * e + 1) % 64) _) (64 * bkR (rNd (frR r v)) d ((4 * e + 2) / 64) + (4 * e + 2) % 64) _ = _
    rw [bk, bk, bk, C.2.2.2.1]; rfl
  have e1 : frR (enR r d e 0 0) v = qNw (frR r v) (rNw (enR r d e 0 0)) := fr_nw r v (rNw (enR r d e 0 0))
  rw [e1, ← h]; rfl
section RM
variable {L : Nat} {u : DSt} {r : RSt}
theorem pl_ge {d j : Nat} (hL0 : 96 ≤ L) (hL : L ≤ 768) (S : Sim L u r) (W : WFk L (rNd r) (rOw r) (rNw r)) (hd : d < 64) (hj : j < rNd r (20 * d + 1) / 4) : 0 ≤ plc L (dNow u) d (4 * j) ∧ ¬ plc L (dNow u) d (4 * j) = -1 := by
  have hb := W.bs hd
  rw [R_pl S hL0 hL hd W.1.1, if_pos (by omega)]
  have := W.1.2.2.1 d hd (4 * j / 64) (by omega)
  have p := nI_pos' (n := 64 * bkR (rNd r) d (4 * j / 64) + 4 * j % 64) (by omega)
  exact ⟨p, fun q => by rw [q] at p; exact absurd p (by decide)⟩
theorem R_eof {d : Nat} (hL0 : 96 ≤ L) (hL : L ≤ 768) (S : Sim L u r) (W : WFk L (rNd r) (rOw r) (rNw r)) (hd : d < 64) (w : Nat) :
    (¬ 0 ≤ bdR r d ∧ eof L (dNow u) d w = bdR r d) ∨ (0 ≤ bdR r d ∧ rNd r (20 * d) = 2 ∧ eoR r d w = -1 ∧ eof L (dNow u) d w = -1 ∧ ∀ j, j < rNd r (20 * d + 1) / 4 → nmE (rNd r) (rNw r) d j ≠ w) ∨
    (0 ≤ bdR r d ∧ rNd r (20 * d) = 2 ∧ ∃ j, j < rNd r (20 * d + 1) / 4 ∧ eoR r d w = nI j ∧ eof L (dNow u) d w = plc L (dNow u) d (4 * j) ∧ 0 ≤ plc L (dNow u) d (4 * j) ∧ nmE (rNd r) (rNw r) d j = w) := by
  have hk := W.2.1 d hd
  unfold eof
  rw [R_kd hL0 hL S hd hk.1]
  by_cases k : 0 ≤ bdR r d
  · rw [if_pos k]
    have k2 := (bd_iff hk.1).mp k
    rcases R_ent hL0 hL S W hd k2 w with ⟨h1, h2, h3⟩ | ⟨j, h1, h2, h3, h4⟩
    · exact Or.inr (Or.inl ⟨k, k2, h1, h2, h3⟩)
    · exact Or.inr (Or.inr ⟨k, k2, j, h1, h2, h3, (pl_ge hL0 hL S W hd h1).1, h4⟩)
  · rw [if_neg k]; exact Or.inl ⟨k, rfl⟩
theorem R_hsE {v : Nat} (hL0 : 96 ≤ L) (hL : L ≤ 768) (S : Sim L u r) (W : WFk L (rNd r) (rOw r) (rNw r)) (hv : v < 64) : hsE L (dNow u) v = true ↔ (rNd r (20 * v) = 2 ∧ ieR r v = false) := by
  unfold hsE
  rw [R_K S hL0 hL hv, Bool.and_eq_true, decide_eq_true_iff]
  constructor
  · rintro ⟨h1, h2⟩; rw [R_emp hL0 hL S W hv h1] at h2; exact ⟨h1, by simpa using h2⟩
  · rintro ⟨h1, h2⟩; rw [R_emp hL0 hL S W hv h1, h2]; exact ⟨h1, rfl⟩
theorem no_ch {v : Nat} (h : ¬ (rNd r (20 * v) = 2 ∧ ieR r v = false)) : ∀ e w j, ¬ PE (rNd r) (rNw r) v e w j := by
  rintro e w j ⟨h1, h2, h3, h4, h5, h6⟩
  have : ieR r v = true := by
    cases q : ieR r v with
    | true => rfl
    | false => exact absurd ⟨h2, q⟩ h
  have := (ie_G r v _).mp this e h3
  omega
end RM
theorem up4_0 (P : Nat → Nat → Nat → Nat → Prop) (d e i d' e' w' i' : Nat) : upE4 P d e 0 i d' e' w' i' ↔ (P d' e' w' i' ∧ ¬ (d' = d ∧ e' = e)) := by
  unfold upE4
  exact ⟨fun h => h.elim (fun q => absurd q.2.2.2.2 (by decide)) id, Or.inr⟩
theorem tr_rm {K : Nat → Nat} {P : Nat → Nat → Nat → Nat → Prop} {d e w v : Nat} (T : TrD K P 0) (hp : P d e w v) (hc : ∀ e w j, ¬ P v e w j) : TrD (fun j => if j = v then 0 else K j) (upE4 P d e 0 0) 0 :=
  tr_ext (fun _ _ => rfl) (fun d' e' w' i' => up4_0 P d e 0 d' e' w' i') (tr_free (tr_det T hp) (T.2.1 _ _ _ _ hp).2.2.2.1 (fun e w j q => hc e w j q.1))
theorem tr_mv1 {K : Nat → Nat} {P : Nat → Nat → Nat → Nat → Prop} {d e w i d2 e2 w2 : Nat} (T : TrD K P 0) (hp : P d e w i) (hd2 : d2 < 64) (hk2 : K d2 = 2) (hw2 : 1 ≤ w2) (hb : ∀ n, ¬ BlN P i n d2) (hf : ∀ w' j, ¬ upE4 P d e 0 0 d2 e2 w' j) (hn : ∀ e' j, ¬ P d2 e' w2 j) : TrD K (upE4 (upE4 P d e 0 0) d2 e2 w2 i) 0 := by
  have hi := T.2.1 _ _ _ _ hp
  have t1 := tr_det T hp
  have t2 := tr_att (e := e2) t1 hi.2.2.2.1 hi.2.2.2.2.1 hi.2.2.2.2.2.1 hd2 hk2 hw2 (fun n q => hb n (bl_mono (fun _ _ _ _ z => z.1) n d2 q)) (fun w' j q => hf w' j ((up4_0 ..).mpr q)) (fun e' j q => hn e' j q.1)
  refine tr_ext (fun _ _ => rfl) (fun d' e' w' i' => ?_) t2
  constructor
  · rintro (⟨q1, q2, q3, q4, q5⟩ | ⟨q, _⟩)
    · exact Or.inl ⟨q1, q2, q3, q4⟩
    · exact Or.inr ((up4_0 ..).mp q)
  · rintro (⟨q1, q2, q3, q4⟩ | q)
    · exact Or.inl ⟨q1, q2, q3, q4, hw2⟩
    · refine Or.inr ⟨(up4_0 ..).mpr q, fun ⟨z1, z2⟩ => ?_⟩
      subst z1; subst z2; exact hf _ _ ((up4_0 ..).mpr q)
theorem tr_mv2 {K : Nat → Nat} {P : Nat → Nat → Nat → Nat → Prop} {d e w i d2 e2 w2 v : Nat} (T : TrD K P 0) (hp : P d e w i) (hq : P d2 e2 w2 v) (hne : ¬ (d = d2 ∧ e = e2)) (hc : ∀ e w j, ¬ P v e w j) (hb : ∀ n, ¬ BlN P i n d2) : TrD (fun j => if j = v then 0 else K j) (upE4 (upE4 P d e 0 0) d2 e2 w2 i) 0 := by
  have h2 := T.2.1 _ _ _ _ hq
  have t1 := tr_rm T hq hc
  have hdv : d2 ≠ v := fun z => by subst z; exact hc _ _ _ hq
  have hp1 : upE4 P d2 e2 0 0 d e w i := (up4_0 ..).mpr ⟨hp, hne⟩
  have t2 := tr_mv1 (e2 := e2) (w2 := w2) t1 hp1 h2.1 (by show (if d2 = v then 0 else K d2) = 2; rw [if_neg hdv]; exact h2.2.1) h2.2.2.1 (fun n q => hb n (bl_mono (fun _ _ _ _ z => ((up4_0 ..).mp z).1) n d2 q)) (fun w' j q => ((up4_0 ..).mp ((up4_0 ..).mp q).1).2 ⟨rfl, rfl⟩) (fun e' j q => by
    have q := (up4_0 ..).mp q
    exact q.2 ⟨rfl, T.2.2.2.1 _ _ _ _ _ _ q.1 hq⟩)
  refine tr_ext (fun _ _ => rfl) (fun d' e' w' i' => ?_) t2
  unfold upE4
  constructor
  · rintro (q | ⟨q1, q2⟩)
    · exact Or.inl q
    · have q1 := (up4_0 ..).mp q1
      exact Or.inr ⟨Or.inr ⟨Or.inr ⟨q1.1, q2⟩, q1.2⟩, q2⟩
  · rintro (q | ⟨q1, q2⟩)
    · exact Or.inl q
    · rcases q1 with q1 | ⟨q1, q3⟩
      · exact absurd q1.2.2.2.2 (by decide)
      · rcases q1 with q1 | ⟨q1, q4⟩
        · exact absurd q1.2.2.2.2 (by decide)
        · exact Or.inr ⟨Or.inr ⟨q1, q3⟩, q2⟩
theorem rm_op {L : Nat} {u : DSt} {r : RSt} {d w : Nat} (hL0 : 96 ≤ L) (hL : L ≤ 768) (T0 : Tch L u u) (S : Sim L u r) (W : WFr L r) (B : rB r) (hd : d < 64) (hw1 : 1 ≤ w) :
    OpS L r (rmC L u d w).1 (rel L (mv1 L u (eof L (dNow u) d w)) (ino L (dNow u) (eof L (dNow u) d w))) (rrR r d w) ∧ OpC L u (rmC L u d w).1 (rmC L u d w).2 (rel L (mv1 L u (eof L (dNow u) d w)) (ino L (dNow u) (eof L (dNow u) d w))) := by
  have hb := W.1.bs hd
  generalize hU : rel L (mv1 L u (eof L (dNow u) d w)) (ino L (dNow u) (eof L (dNow u) d w)) = u2
  unfold rmC rrR
  rw [hU]
  rcases R_eof hL0 hL S W.1 hd w with ⟨k, he⟩ | ⟨k, k2, h1, he, h3⟩ | ⟨k, k2, j, hj, h1, he, hp, hnm⟩
  · rw [he, if_neg k, if_neg k]; exact ⟨OpS.no k B, OpC.no k⟩
  · rw [he, if_neg (show ¬ (0 : Int32) ≤ -1 by decide), if_pos k, h1, if_neg (show ¬ (0 : Int32) ≤ -1 by decide)]
    exact ⟨OpS.no (show ¬ (0 : Int32) ≤ -1 by decide) B, OpC.no (show ¬ (0 : Int32) ≤ -1 by decide)⟩
  · have hs := W.1.sz hL hd
    rw [he] at hU ⊢
    rw [if_pos hp, if_pos k, h1, if_pos (nI_pos' (by omega)), nI_clamp (by omega)]
    rw [R_in hL0 hL S W.1.1 hd (by omega)] at hU ⊢
    have hPE : PE (rNd r) (rNw r) d j w (inE (rNd r) (rNw r) d j) := ⟨hd, k2, hj, hnm, hw1, rfl⟩
    rw [show iaR r d j = inE (rNd r) (rNw r) d j from rfl]
    generalize hv : inE (rNd r) (rNw r) d j = v at *
    have tv := W.2.2.2.1 _ _ _ _ hPE
    have hE := R_hsE (v := v) hL0 hL S W.1 tv.2.2.2.2.1
    by_cases c : rNd r (20 * v) = 2 ∧ ieR r v = false
    · rw [if_pos (hE.mpr c), if_pos c]
      exact ⟨OpS.no (show ¬ (0 : Int32) ≤ -6 by decide) B, OpC.no (show ¬ (0 : Int32) ≤ -6 by decide)⟩
    · rw [if_neg (fun q => c (hE.mp q)), if_neg c]
      have nc := no_ch c
      have hdv : d ≠ v := fun z => nc _ _ _ (by rw [← z]; rw [← z] at hPE; exact hPE)
      have S1 := stE_sim (e := j) (w := 0) (i := 0) hL0 hL S W.1.1 hd (by omega) (by decide) (by decide) rfl
      obtain ⟨W1, P1, N1⟩ := en_char (e := j) (w := 0) (i := 0) W.1 hd k2 hj (by decide) (by decide)
      have W1 : WFk L (rNd (enR r d j 0 0)) (rOw (enR r d j 0 0)) (rNw (enR r d j 0 0)) := W1
      obtain ⟨S2, C⟩ := fr_sim (i := v) hL0 hL S1 W1.1 tv.2.2.2.2.1 (W1.2.1 v tv.2.2.2.2.1).2.1 (by have := W1.sz hL tv.2.2.2.2.1; omega)
      obtain ⟨-, C0⟩ := fr_sim (i := v) hL0 hL S W.1.1 tv.2.2.2.2.1 (W.1.2.1 v tv.2.2.2.2.1).2.1 (by have := W.1.sz hL tv.2.2.2.2.1; omega)
      have nc1 : ∀ e w j', ¬ PE (rNd (enR r d j 0 0)) (rNw (enR r d j 0 0)) v e w j' := fun e w j' q => by
        have q : PE (rNd r) (rNw (enR r d j 0 0)) v e w j' := q
        rw [P1] at q; exact nc _ _ _ ((up4_0 ..).mp q).1
      obtain ⟨P2, N2⟩ := fr_PE W1 C nc1
      have f1 : Fdk L r (frR (enR r d j 0 0) v) 3 := (fd_en (by decide) (by decide)).tr (fd_fr W1.1 tv.2.2.2.2.1)
      have B2 : rB (frR (enR r d j 0 0) v) := (fr_wf tv.2.2.2.2.1 W1.1.1 (enR_B B (by decide) (by decide))).2
      rw [en_fr hdv C0]
      refine ⟨⟨rfl, f1.1, B2, fun _ => ⟨?_, ⟨fr_WFk W1 C, N2 (N1 W.2.1 (fun _ => rfl)), ?_⟩, ?_⟩⟩, fun _ => ⟨rfl, ?_⟩, fun q => absurd (show (0 : Int32) ≤ nI 0 by decide) q⟩
      · rw [← hU]; exact S2
      · refine tr_ext (fun a ha => ?_) (fun d' e' w' i' => ?_) (tr_rm W.2.2 hPE nc)
        · show rNd (frR (enR r d j 0 0) v) (20 * a) = if a = v then 0 else rNd r (20 * a)
          by_cases q : a = v
          · rw [if_pos q, q]; exact C.2.2.1 _ (by omega) (by omega)
          · rw [if_neg q]; exact C.2.1 _ (by omega)
        · show PE (rNd (frR (enR r d j 0 0) v)) (rNw (frR (enR r d j 0 0) v)) d' e' w' i' ↔ _
          rw [P2]
          show PE (rNd r) (rNw (enR r d j 0 0)) d' e' w' i' ↔ _
          rw [P1]
      · refine f1.2.ch [v] (show 3 + 1 ≤ 22 by decide) (fun q _ hq => ?_)
        rw [List.mem_singleton]
        exact Classical.byContradiction (fun y => hq (C.2.1 q (by omega)))
      · rw [← hU]; exact T_rel (T_stE T0 _ _ _) v
