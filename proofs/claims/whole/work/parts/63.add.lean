/-! AN ENTRY ADDED; the kind set first commutes with it. -/
def AdC (L : Nat) (r r' : RSt) (d w i : Nat) : Prop := WFk L (rNd r') (rOw r') (rNw r') ∧ (∀ q, q < 20 * d ∨ 20 * d + 20 ≤ q ∨ q = 20 * d → rNd r' q = rNd r q) ∧ ∃ e, (∀ w' j, ¬ PE (rNd r) (rNw r) d e w' j) ∧ PE (rNd r') (rNw r') = upE4 (PE (rNd r) (rNw r)) d e w i ∧ (NoE (rNd r) (rNw r) → NoE (rNd r') (rNw r'))
theorem ad_sim {L : Nat} {u : DSt} {r : RSt} {d w i : Nat} (hL0 : 96 ≤ L) (hL : L ≤ 768) (S : Sim L u r) (W : WFk L (rNd r) (rOw r) (rNw r)) (hd : d < 64) (hk : rNd r (20 * d) = 2) (hw1 : 1 ≤ w) (hw : w < 65536) (hi : i < 256) :
    (adE L u d (nI w) (nI i)).1 = (adR L r d w i).1 ∧ ((adR L r d w i).1 = true → Sim L (adE L u d (nI w) (nI i)).2 (adR L r d w i).2 ∧ AdC L r (adR L r d w i).2 d w i) := by
  have hs := W.sz hL hd; have hb := W.bs hd; have hm := (W.2.1 d hd).2.2.2 hk
  have eS : iS L (dNow u) d = rNd r (20 * d + 1) := R_S S hL0 hL hd (by omega)
  rcases R_ent hL0 hL S W hd hk 0 with ⟨h1, h2, h3⟩ | ⟨j, h1, h2, h3, h4⟩
  · obtain ⟨z1, z2⟩ := sz_sim (n := rNd r (20 * d + 1) + 64) hL0 hL S W.1 hd (W.2.1 d hd).2.1 (by omega) (by omega) (W.2.2.1 d hd)
    unfold adE adR
    rw [if_pos h2, h1, if_neg (show ¬ (0 : Int32) ≤ -1 by decide), eS, z1]
    by_cases z : (szR L r d (rNd r (20 * d + 1) + 64)).1 = true
    · rw [if_pos z, if_pos z]
      obtain ⟨S1, C⟩ := z2 z
      have W1 := sz_WFk W hd C (fun q => absurd q (by omega)) (fun _ => by omega)
      have k1 : rNd (szR L r d (rNd r (20 * d + 1) + 64)).2 (20 * d) = 2 := (C.2.1 _ (by omega)).trans hk
      have s1 : rNd (szR L r d (rNd r (20 * d + 1) + 64)).2 (20 * d + 1) = rNd r (20 * d + 1) + 64 := C.2.2.1
      have hb1 := W1.bs hd
      refine ⟨rfl, fun _ => ⟨?_, ?_⟩⟩
      · exact stE_sim hL0 hL S1 W1.1 hd (by omega) hw hi (by congr 1; omega)
      · obtain ⟨e1, e2, e3⟩ := en_char (e := rNd r (20 * d + 1) / 4) (w := w) (i := i) W1 hd k1 (by omega) hw hi
        obtain ⟨f1, f2⟩ := sz_PEd W hd C hk (by omega) (by omega)
        refine ⟨e1, fun q hq => C.2.1 q (by omega), rNd r (20 * d + 1) / 4, fun w' j q => ?_, ?_, fun N => e3 (f2 N) (fun q => by omega)⟩
        · exact absurd q.2.2.1 (by omega)
        · rw [← f1]; exact e2
    · rw [if_neg z, if_neg z]; exact ⟨rfl, fun q => by cases q⟩
  · have hj : 0 ≤ nI j := nI_pos' (by omega)
    have pne : ¬ plc L (dNow u) d (4 * j) = -1 := by
      rw [R_pl S hL0 hL hd W.1.1, if_pos (by omega)]
      have := W.1.2.2.1 d hd (4 * j / 64) (by omega)
      intro q
      exact absurd (nI_pos' (n := 64 * bkR (rNd r) d (4 * j / 64) + 4 * j % 64) (by omega)) (by rw [q]; decide)
    unfold adE adR
    rw [h3, if_neg pne, h2, if_pos hj, nI_clamp (by omega)]
    refine ⟨rfl, fun _ => ⟨stE_sim hL0 hL S W.1 hd (by omega) hw hi rfl, ?_⟩⟩
    obtain ⟨e1, e2, e3⟩ := en_char (e := j) (w := w) (i := i) W hd hk h1 hw hi
    exact ⟨e1, fun q _ => rfl, j, fun w' j' q => absurd (q.2.2.2.1.symm.trans h4) (by have := q.2.2.2.2.1; omega), e2, fun N => e3 N (fun q => by omega)⟩
theorem vu_comm {f : Nat → Nat} {a b x y : Nat} (h : a ≠ b) : va_up (va_up f a x) b y = va_up (va_up f b y) a x := by
  funext q; unfold va_up
  by_cases h1 : q = b
  · rw [if_pos h1, if_neg (by omega), if_pos h1]
  · rw [if_neg h1]
    by_cases h2 : q = a
    · rw [if_pos h2, if_pos h2]
    · rw [if_neg h2, if_neg h2, if_neg h1]
section MKC
variable {L : Nat} {i c d : Nat}
theorem mk_at (r : RSt) {q : Nat} (h : q ≠ 20 * i) : rNd (mk1 r i c) q = rNd r q := va_up_ne _ _ h
theorem mk_tkF (r : RSt) {e b : Nat} (he : e ≤ 7) : tkF (mk1 r i c) d e b = mk1 (tkF r d e b) i c := by
  have h : va_up (va_up (rNd r) (20 * i) c) (20 * d + 4 + 2 * e) (va_up (rNd r) (20 * i) c (20 * d + 4 + 2 * e) + 1) = va_up (va_up (rNd r) (20 * d + 4 + 2 * e) (rNd r (20 * d + 4 + 2 * e) + 1)) (20 * i) c := by
    rw [va_up_ne _ _ (by omega), vu_comm (by omega)]
  show qNw (qOw (qNd r (va_up (va_up (rNd r) (20 * i) c) (20 * d + 4 + 2 * e) (va_up (rNd r) (20 * i) c (20 * d + 4 + 2 * e) + 1))) _) _ = _
  rw [h]; rfl
theorem mk_tkX (r : RSt) {e b : Nat} (he : e ≤ 7) : tkX (mk1 r i c) d e b = mk1 (tkX r d e b) i c := by
  have h : va_up (va_up (va_up (va_up (rNd r) (20 * i) c) (20 * d + 2) (e + 1)) (20 * d + 3 + 2 * e) b) (20 * d + 4 + 2 * e) 0 = va_up (va_up (va_up (va_up (rNd r) (20 * d + 2) (e + 1)) (20 * d + 3 + 2 * e) b) (20 * d + 4 + 2 * e) 0) (20 * i) c := by
    rw [vu_comm (a := 20 * i) (b := 20 * d + 2) (by omega), vu_comm (a := 20 * i) (b := 20 * d + 3 + 2 * e) (by omega), vu_comm (a := 20 * i) (b := 20 * d + 4 + 2 * e) (by omega)]
  show qNd r (va_up (va_up (va_up (va_up (rNd r) (20 * i) c) (20 * d + 2) (e + 1)) (20 * d + 3 + 2 * e) b) (20 * d + 4 + 2 * e) 0) = _
  rw [h]; rfl
theorem mk_tk {r : RSt} (h8 : lX r d ≤ 8) : tkR L (mk1 r i c) d = ((tkR L r d).1, mk1 (tkR L r d).2 i c) := by
  have eX : lX (mk1 r i c) d = lX r d := mk_at r (by omega)
  by_cases h1 : 1 ≤ lX r d
  · have eF : lF (mk1 r i c) d = lF r d := by
      show rNd (mk1 r i c) (20 * d + 3 + 2 * (lX (mk1 r i c) d - 1)) = _
      rw [eX]; exact mk_at r (by omega)
    have eN : lN' (mk1 r i c) d = lN' r d := by
      show rNd (mk1 r i c) (20 * d + 4 + 2 * (lX (mk1 r i c) d - 1)) = _
      rw [eX]; exact mk_at r (by omega)
    have hcc : tkc L (mk1 r i c) d ↔ tkc L r d := by
      show (1 ≤ lX (mk1 r i c) d ∧ lF (mk1 r i c) d + lN' (mk1 r i c) d < L ∧ rOw r (lF (mk1 r i c) d + lN' (mk1 r i c) d) = 0 ∧ lN' (mk1 r i c) d < 255) ↔ _
      rw [eX, eF, eN]
    by_cases hc : tkc L r d
    · rw [tkR_a (hcc.mpr hc), tkR_a hc, eF, eN, eX, mk_tkF r (by omega)]
    · by_cases h2 : foR L (rOw r) = L ∨ lX r d = 8
      · rw [tkR_n (fun z => hc (hcc.mp z)) (by rw [eX]; exact h2), tkR_n hc h2]
      · have h3 : ¬ foR L (rOw r) = L := fun z => h2 (Or.inl z)
        have h4 : ¬ lX r d = 8 := fun z => h2 (Or.inr z)
        rw [tkR_l (fun z => hc (hcc.mp z)) h3 (by rw [eX]; exact h4), tkR_l hc h3 h4, eX, mk_tkX r (by omega), mk_tkF _ (by omega)]; rfl
  · have hc : ¬ tkc L r d := fun z => h1 z.1
    have hc' : ¬ tkc L (mk1 r i c) d := fun z => h1 (by rw [← eX]; exact z.1)
    by_cases h2 : foR L (rOw r) = L ∨ lX r d = 8
    · rw [tkR_n hc' (by rw [eX]; exact h2), tkR_n hc h2]
    · have h3 : ¬ foR L (rOw r) = L := fun z => h2 (Or.inl z)
      have h4 : ¬ lX r d = 8 := fun z => h2 (Or.inr z)
      rw [tkR_l hc' h3 (by rw [eX]; exact h4), tkR_l hc h3 h4, eX, mk_tkX r (by omega), mk_tkF _ (by omega)]; rfl
theorem mk_szT (hd : d < 64) : ∀ m r, wfN (rNd r) L → szT L d m (mk1 r i c) = ((szT L d m r).1, mk1 (szT L d m r).2 i c) := by
  intro m
  induction m with
  | zero => intro r _; rfl
  | succ m ih =>
    intro r h
    unfold szT
    rw [mk_tk (h d hd).1]
    by_cases z : (tkR L r d).1 = true
    · rw [if_pos z, if_pos z, ih _ (tk_wf hd h).1]
    · rw [if_neg z, if_neg z]
theorem mk_pt (r : RSt) (a q v : Nat) : ptR (mk1 r i c) a q v = mk1 (ptR r a q v) i c := by
  show qNw (mk1 r i c) (va_up (rNw r) (64 * bkR (va_up (rNd r) (20 * i) c) a (q / 64) + q % 64) v) = _
  rw [bk_k]; rfl
theorem mk_szZ (a : Nat) : ∀ m q r, szZ a m q (mk1 r i c) = mk1 (szZ a m q r) i c := by
  intro m
  induction m with
  | zero => intro q r; rfl
  | succ m ih => intro q r; unfold szZ; rw [mk_pt, ih]
theorem mk_en (r : RSt) (a e w j : Nat) : enR (mk1 r i c) a e w j = mk1 (enR r a e w j) i c := by unfold enR; rw [mk_pt, mk_pt, mk_pt]
theorem mk_nm (r : RSt) (a e : Nat) : nmR (mk1 r i c) a e = nmR r a e := by
  show gt (va_up (rNd r) (20 * i) c) (rNw r) a (4 * e) + gt (va_up (rNd r) (20 * i) c) (rNw r) a (4 * e + 1) * 256 = _
  rw [gt_k, gt_k]; rfl
theorem mk_eo (r : RSt) (a w : Nat) : eoR (mk1 r i c) a w = eoR r a w := by
  have : ∀ n e, eoG (mk1 r i c) a w n e = eoG r a w n e := by
    intro n
    induction n with
    | zero => intro e; rfl
    | succ n ih => intro e; unfold eoG; rw [mk_nm, ih]
  unfold eoR
  rw [mk_at r (by omega), this]
theorem mk_sz {r : RSt} {n : Nat} (hd : d < 64) (W : WFb L (rNd r) (rOw r)) (hb : bsR (rNd r) d ≤ ndz n) : (szR L (mk1 r i c) d n).1 = (szR L r d n).1 ∧ ((szR L r d n).1 = true → (szR L (mk1 r i c) d n).2 = mk1 (szR L r d n).2 i c) := by
  have e0 : bsR (rNd (mk1 r i c)) d = bsR (rNd r) d := bs_up0 (W.1 d hd).1
  have e1 : sz1 L (mk1 r i c) d n = ((sz1 L r d n).1, mk1 (sz1 L r d n).2 i c) := by unfold sz1; rw [e0]; exact mk_szT hd _ r W.1
  have f1 : (szR L (mk1 r i c) d n).1 = (szR L r d n).1 := by show (sz1 L (mk1 r i c) d n).1 = (sz1 L r d n).1; rw [e1]
  refine ⟨f1, fun z => ?_⟩
  have z1 : (sz1 L r d n).1 = true := z
  have w1 := tk_wf (L := L) (r := r) hd W.1
  have hbs : bsR (rNd (sz1 L r d n).2) d = bsR (rNd r) d + (ndz n - bsR (rNd r) d) := by
    have W2 := (fd_szT hd (ndz n - bsR (rNd r) d) r W).2
    have : ∀ m r, wfN (rNd r) L → (szT L d m r).1 = true → bsR (rNd (szT L d m r).2) d = bsR (rNd r) d + m := by
      intro m
      induction m with
      | zero => intro r _ _; rfl
      | succ m ih =>
        intro r h hz
        unfold szT at hz ⊢
        by_cases q : (tkR L r d).1 = true
        · rw [if_pos q] at hz ⊢
          rw [ih _ (tk_wf hd h).1 hz, (tk_wf hd h).2 q]; omega
        · rw [if_neg q] at hz; cases hz
    exact this _ r W.1 z1
  have g0 : bsR (rNd (sz1 L r d n).2) d - ndz n = 0 := by omega
  have g1 : sz2 L r d n = (sz1 L r d n).2 := by unfold sz2; rw [g0]; rfl
  have g2 : sz2 L (mk1 r i c) d n = mk1 (sz1 L r d n).2 i c := by
    unfold sz2; rw [e1]
    have : bsR (rNd (mk1 (sz1 L r d n).2 i c)) d = bsR (rNd (sz1 L r d n).2) d := bs_up0 ((fd_szT hd (ndz n - bsR (rNd r) d) r W).2.1 d hd).1
    rw [show bsR (rNd ((sz1 L r d n).1, mk1 (sz1 L r d n).2 i c).2) d - ndz n = 0 from by rw [show bsR (rNd ((sz1 L r d n).1, mk1 (sz1 L r d n).2 i c).2) d = _ from this]; exact g0]; rfl
  have g3 : sz3 L (mk1 r i c) d n = mk1 (sz3 L r d n) i c := by
    unfold sz3; rw [g2, g1]
    show qNd (sz1 L r d n).2 (va_up (va_up (rNd (sz1 L r d n).2) (20 * i) c) (20 * d + 1) n) = _
    rw [vu_comm (by omega)]; rfl
  have z2 : (sz1 L (mk1 r i c) d n).1 = true := by rw [e1]; exact z1
  show (if (sz1 L (mk1 r i c) d n).1 = true then szZ d (64 * ndz n - n) n (sz3 L (mk1 r i c) d n) else sz3 L (mk1 r i c) d n) = mk1 (if (sz1 L r d n).1 = true then szZ d (64 * ndz n - n) n (sz3 L r d n) else sz3 L r d n) i c
  rw [if_pos z2, if_pos z1, g3, mk_szZ]
theorem mk_ad {r : RSt} {w j : Nat} (hd : d < 64) (W : WFb L (rNd r) (rOw r)) (hb : bsR (rNd r) d = ndz (rNd r (20 * d + 1))) : (adR L (mk1 r i c) d w j).1 = (adR L r d w j).1 ∧ ((adR L r d w j).1 = true → (adR L (mk1 r i c) d w j).2 = mk1 (adR L r d w j).2 i c) := by
  have hb' : bsR (rNd r) d = (rNd r (20 * d + 1) + 63) / 64 := hb
  obtain ⟨s1, s2⟩ := mk_sz (i := i) (c := c) (n := rNd r (20 * d + 1) + 64) hd W (by show bsR (rNd r) d ≤ (rNd r (20 * d + 1) + 64 + 63) / 64; omega)
  have es : rNd (mk1 r i c) (20 * d + 1) = rNd r (20 * d + 1) := mk_at r (by omega)
  unfold adR
  rw [mk_eo, es, s1]
  by_cases q : 0 ≤ eoR r d 0
  · rw [if_pos q, if_pos q]; exact ⟨rfl, fun _ => mk_en _ _ _ _ _⟩
  · rw [if_neg q, if_neg q]
    by_cases z : (szR L r d (rNd r (20 * d + 1) + 64)).1 = true
    · rw [if_pos z, if_pos z, s2 z]; exact ⟨rfl, fun _ => mk_en _ _ _ _ _⟩
    · rw [if_neg z, if_neg z]; exact ⟨rfl, fun q => by cases q⟩
end MKC
