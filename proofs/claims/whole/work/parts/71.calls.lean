/-! THE CALLS that change: one after the other. -/
theorem ivt_th {L : Nat} {u : DSt} {tl : Nat} {tp : Nat → Int32} {r : RSt} (hL0 : 96 ≤ L) (I : Ivt L u tl tp r) (x : Int32) : Ivt L u tl tp (qTh r x) :=
  ivt_ref hL0 I (fun _ _ => rfl) (fun _ _ => rfl) (fun _ _ _ _ _ _ => rfl) I.2.1.1.2.2.2 ⟨rfl, rfl, rfl, rfl, rfl, rfl⟩ I.2.2.2.2.2.2.2.2.1
theorem ivt_tape {L : Nat} {u : DSt} {tl tl' : Nat} {tp tp' : Nat → Int32} {r : RSt} {f : Nat → Nat} (hL0 : 96 ≤ L) (I : Ivt L u tl tp r) (h1 : tl' ≤ 512) (h2 : ∀ j, tp' j = nI (f j)) (h3 : ∀ j, f j < 256) : Ivt L u tl' tp' (qTl (qTp r f) tl') := by
  have hB : rB (qTl (qTp r f) tl') := fun q => ⟨by have := h3 q; show f q < 65536; omega, (I.2.2.2.2.2.2.2.2.1 q).2⟩
  have I0 := I
  obtain ⟨i1, i2, i3, i4, i5, i6, i7, i8, i9, i10⟩ := I
  have S' : Sim L u (qTl (qTp r f) tl') := i1
  have W' : WFr L (qTl (qTp r f) tl') := i2
  refine ⟨S', W', i3, i4, i5, i6, i7, ⟨rfl, h1, h2, h3⟩, hB, ?_⟩
  rw [(ch_dct hL0 S' W'.1.1.2.1 i5 (fun b hb => (i6 b hb).2)).1, ← (ch_dct hL0 i1 i2.1.1.2.1 i5 (fun b hb => (i6 b hb).2)).1]; exact i10
theorem va_id {α : Type} {f : Nat → α} {k : Nat} {v : α} (h : f k = v) : va_up f k v = f := by
  funext q; unfold va_up; split
  · rename_i z; rw [z]; exact h.symm
  · rfl
theorem stG_id : ∀ n b u, (∀ q, b ≤ q → q < b + n → dTou u q = false) → stG n b u = u := by
  intro n
  induction n with
  | zero => intro b u _; rfl
  | succ n ih =>
    intro b u h
    show stG n (b + 1) (if dTou u b then cmp u b else u) = u
    rw [h b (Nat.le_refl _) (by omega), if_neg (by decide)]
    exact ih (b + 1) u (fun q h1 h2 => h q (by omega) (by omega))
theorem fgG_id : ∀ n b u, (∀ q, b ≤ q → q < b + n → dTou u q = false) → fgG n b u = u := by
  intro n
  induction n with
  | zero => intro b u _; rfl
  | succ n ih =>
    intro b u h
    show fgG n (b + 1) (sTou u (va_up (dTou u) b false)) = u
    have e : sTou u (va_up (dTou u) b false) = u := by rw [va_id (h b (Nat.le_refl _) (by omega))]
    rw [e]; exact ih (b + 1) u (fun q h1 h2 => h q (by omega) (by omega))
theorem stl_id {L : Nat} {u : DSt} {tl : Nat} {tp : Nat → Int32} {r : RSt} (hL0 : 96 ≤ L) (I : Ivt L u tl tp r) : stl L u = u := by
  obtain ⟨i1, i2, i3, i4, i5, i6, i7, i8, i9, i10⟩ := I
  have t : ∀ q, 0 ≤ q → q < 0 + L → dTou u q = false := fun q _ h => (i6 q (by omega)).1
  have c := (ch_dct hL0 i1 i2.1.1.2.1 i5 (fun b hb => (i6 b hb).2)).1
  unfold stl fgt
  rw [stG_id L 0 u t, if_neg (by omega), fgG_id L 0 u t]
theorem Ivt.T0 {L : Nat} {u : DSt} {tl : Nat} {tp : Nat → Int32} {r : RSt} (I : Ivt L u tl tp r) : Tch L u u := Tch.rf (fun b hb => (I.2.2.2.2.2.1 b hb).1)
theorem WFr.ok {L : Nat} {r : RSt} (W : WFr L r) : okR L r := ⟨W.1.1.1, fun _ hi => W.1.bs hi, W.1.2.2.2⟩
theorem ia_64 {L : Nat} {r : RSt} {d : Nat} (W : WFr L r) (hd : d < 64) (k : 0 ≤ bdR r d) : ∀ e, e < rNd r (20 * d + 1) / 4 → iaR r d e < 64 := by
  intro e he
  have k2 := (bd_iff (W.1.2.1 d hd).1).mp k
  by_cases z : nmE (rNd r) (rNw r) d e = 0
  · have := W.2.1 d hd k2 e he z
    show inE (rNd r) (rNw r) d e < 64
    omega
  · exact (W.2.2.2.1 _ _ _ _ ⟨hd, k2, he, rfl, by omega, rfl⟩).2.2.2.2.1
theorem ia_ne {L : Nat} {r : RSt} {d w : Nat} (W : WFr L r) (hd : d < 64) (hw : 1 ≤ w) (k : 0 ≤ bdR r d) : ∀ e, e < rNd r (20 * d + 1) / 4 → nmR r d e = w → iaR r d e ≠ d := by
  intro e he hn q
  have k2 := (bd_iff (W.1.2.1 d hd).1).mp k
  obtain ⟨ρ, h⟩ := W.2.2.2.2.2.2.2.2
  have := h _ _ _ _ (show PE (rNd r) (rNw r) d e w (iaR r d e) from ⟨hd, k2, he, hn, hw, rfl⟩)
  rw [q] at this
  exact absurd this (Nat.lt_irrefl _)
section CALLS
variable {L : Nat} {u : DSt} {tl : Nat} {tp : Nat → Int32} {r : RSt}
theorem x_make {d w : Nat} (b : Bool) (hL0 : 96 ≤ L) (hL : L ≤ 768) (I : Ivt L u tl tp r) (hd : d < 64) (hw1 : 1 ≤ w) (hw : w ≤ 65535) :
    dsP L (opMk L d w (if b then 1 else 0)) (pMk L d) (qTh r (nI 0)) ∧ (dsR L (opMk L d w (if b then 1 else 0)) (qTh r (nI 0))).1 = (mkC L u d w (if b then 2 else 1)).1 ∧ Ivt L (mkC L u d w (if b then 2 else 1)).2 tl tp (dsR L (opMk L d w (if b then 1 else 0)) (qTh r (nI 0))).2 ∧ rTh (dsR L (opMk L d w (if b then 1 else 0)) (qTh r (nI 0))).2 = nI 0 := by
  have I' := ivt_th hL0 I (nI 0)
  have hc1 : 1 ≤ (if b then 2 else 1) := by cases b <;> decide
  have hc2 : (if b then 2 else 1) ≤ 2 := by cases b <;> decide
  have e : (if (if b then 1 else 0) = 1 then 2 else 1) = (if b then 2 else 1) := by cases b <;> rfl
  have key := fun r' (S : Sim L u r') (W : WFr L r') (B : rB r') => mk_op (c := if b then 2 else 1) hL0 hL I.T0 S W B hd hw1 (show w < 65536 by omega) hc1 hc2
  refine fin hL0 hL I' (fun r' S W B _ => ?_) (key _ I'.1 I'.2.1 I'.2.2.2.2.2.2.2.2.1).2 (fun r' S W B => ⟨W.ok, by have := W.1.sz hL hd; omega⟩)
  show OpS L r' _ _ (mkR L r' d w (if (if b then 1 else 0) = 1 then 2 else 1))
  rw [e]; exact (key r' S W B).1
theorem x_write {i : Nat} {x : Int32} (hL0 : 96 ≤ L) (hL : L ≤ 768) (I : Ivt L u tl tp r) (hi : i < 64) :
    dsP L (opWr L i x (rTl r)) (pWr L i) (qTl (qTh r (nI 0)) 0) ∧ (dsR L (opWr L i x (rTl r)) (qTl (qTh r (nI 0)) 0)).1 = (wrC L u i x tl tp).1 ∧ Ivt L (wrC L u i x tl tp).2 0 tp (dsR L (opWr L i x (rTl r)) (qTl (qTh r (nI 0)) 0)).2 ∧ rTh (dsR L (opWr L i x (rTl r)) (qTl (qTh r (nI 0)) 0)).2 = nI 0 := by
  have t := I.2.2.2.2.2.2.2.1
  have I' : Ivt L u 0 tp (qTl (qTh r (nI 0)) 0) := ivt_tape (f := rTp r) hL0 (ivt_th hL0 I (nI 0)) (by decide) t.2.2.1 t.2.2.2
  have key := fun r' (S : Sim L u r') (W : WFr L r') (B : rB r') (q : rTp r' = rTp r) => wr_op (x := x) (n := rTl r) (f := tp) hL0 hL I.T0 S W B hi (by have := t.1; have := t.2.1; omega) (by rw [q]; exact t.2.2.1) (by rw [q]; exact t.2.2.2)
  rw [t.1]
  exact fin hL0 hL I' (fun r' S W B q => (key r' S W B q).1) (key _ I'.1 I'.2.1 I'.2.2.2.2.2.2.2.2.1 rfl).2 (fun r' S W B => ⟨W.ok, by have := W.1.sz hL hi; omega⟩)
theorem x_cut {i : Nat} {x : Int32} (hL0 : 96 ≤ L) (hL : L ≤ 768) (I : Ivt L u tl tp r) (hi : i < 64) :
    dsP L (opCt L i x) (pWr L i) (qTh r (nI 0)) ∧ (dsR L (opCt L i x) (qTh r (nI 0))).1 = (ctC L u i x).1 ∧ Ivt L (ctC L u i x).2 tl tp (dsR L (opCt L i x) (qTh r (nI 0))).2 ∧ rTh (dsR L (opCt L i x) (qTh r (nI 0))).2 = nI 0 := by
  have I' := ivt_th hL0 I (nI 0)
  have key := fun r' (S : Sim L u r') (W : WFr L r') (B : rB r') => ct_op (x := x) hL0 hL I.T0 S W B hi
  exact fin hL0 hL I' (fun r' S W B _ => (key r' S W B).1) (key _ I'.1 I'.2.1 I'.2.2.2.2.2.2.2.2.1).2 (fun r' S W B => ⟨W.ok, by have := W.1.sz hL hi; omega⟩)
theorem x_remove {d w : Nat} (hL0 : 96 ≤ L) (hL : L ≤ 768) (I : Ivt L u tl tp r) (hd : d < 64) (hw1 : 1 ≤ w) :
    dsP L (opRm d w) (pRm L d w) (qTh r (nI 0)) ∧ (dsR L (opRm d w) (qTh r (nI 0))).1 = (rmC L u d w).1 ∧ Ivt L (rmC L u d w).2 tl tp (dsR L (opRm d w) (qTh r (nI 0))).2 ∧ rTh (dsR L (opRm d w) (qTh r (nI 0))).2 = nI 0 := by
  have I' := ivt_th hL0 I (nI 0)
  have key := fun r' (S : Sim L u r') (W : WFr L r') (B : rB r') => rm_op hL0 hL I.T0 S W B hd hw1
  exact fin hL0 hL I' (fun r' S W B _ => (key r' S W B).1) (key _ I'.1 I'.2.1 I'.2.2.2.2.2.2.2.2.1).2 (fun r' S W B => ⟨W.ok, ia_64 W hd, ia_ne W hd hw1⟩)
theorem x_move {f : Nat → Int32} {d w d2 w2 : Nat} (hL0 : 96 ≤ L) (hL : L ≤ 768) (I : Ivt L u tl tp r) (hd : d < 64) (hw1 : 1 ≤ w) (hd2 : d2 < 64) (hw2 : 1 ≤ w2) (hw3 : w2 ≤ 65535) :
    dsP L (opMv L d w d2 w2) (pMv L d d2 w2) (qTh r (nI 0)) ∧ (dsR L (opMv L d w d2 w2) (qTh r (nI 0))).1 = (mvC L u f d w d2 w2).1 ∧ Ivt L (mvC L u f d w d2 w2).2 tl tp (dsR L (opMv L d w d2 w2) (qTh r (nI 0))).2 ∧ rTh (dsR L (opMv L d w d2 w2) (qTh r (nI 0))).2 = nI 0 := by
  have I' := ivt_th hL0 I (nI 0)
  have key := fun r' (S : Sim L u r') (W : WFr L r') (B : rB r') => mv_op (f := f) hL0 hL I.T0 (stl_id hL0 I) S W B hd hw1 hd2 hw2 (show w2 < 65536 by omega)
  exact fin hL0 hL I' (fun r' S W B _ => (key r' S W B).1) (key _ I'.1 I'.2.1 I'.2.2.2.2.2.2.2.2.1).2 (fun r' S W B => ⟨W.ok, by have := W.1.sz hL hd2; omega, ia_64 W hd, ia_64 W hd2, ia_ne W hd2 hw2, fun _ i _ => up_all W.2.2 hd2⟩)
end CALLS
/-- feed -/
theorem fd_tape {tp : Nat → Int32} {f : Nat → Nat} {n : Nat} {v : Int64} (h2 : ∀ j, tp j = nI (f j)) (h3 : ∀ j, f j < 256) : ∀ i, i ≤ 8 → ∀ j, fdT tp n v i j = nI (fdR f n v i j) ∧ fdR f n v i j < 256 := by
  intro i
  induction i with
  | zero => intro _ j; exact ⟨h2 j, h3 j⟩
  | succ i ih =>
    intro hi j
    show va_up (fdT tp n v i) (n + i) (fby v i) j = nI (va_up (fdR f n v i) (n + i) (v.toBitVec.toNat / 2 ^ (8 * i) % 256) j) ∧ va_up (fdR f n v i) (n + i) (v.toBitVec.toNat / 2 ^ (8 * i) % 256) j < 256
    by_cases e : j = n + i
    · rw [e, va_up_self, va_up_self, fby_N v (by omega)]; exact ⟨rfl, Nat.mod_lt _ (by decide)⟩
    · rw [va_up_ne _ _ e, va_up_ne _ _ e]; exact ih (by omega) j
theorem x_feed {L : Nat} {u : DSt} {tl : Nat} {tp : Nat → Int32} {r : RSt} {n : Nat} {v : Int64} (hL0 : 96 ≤ L) (I : Ivt L u tl tp r) (hn : n ≤ 8) (ht : tl + n ≤ 512) : Ivt L u (tl + n) (fdT tp tl v n) (qTl (qTp (qTh r (nI 0)) (fdR (rTp r) (rTl r) v n)) (rTl r + n)) := by
  have t := I.2.2.2.2.2.2.2.1
  rw [← t.1]
  exact ivt_tape hL0 (ivt_th hL0 I (nI 0)) ht (fun j => (fd_tape t.2.2.1 t.2.2.2 n hn j).1) (fun j => (fd_tape t.2.2.1 t.2.2.2 n hn j).2)
/-- commit, drop -/
theorem mc_char : ∀ n b u, (∀ b' j, j < 8 → dCom (mcG n b u) (8 * b' + j) = if (b ≤ b' ∧ b' < b + n) ∧ dDif u b' = true then dNow u (8 * b' + j) else dCom u (8 * b' + j)) ∧ (∀ b', dDif (mcG n b u) b' = if b ≤ b' ∧ b' < b + n then false else dDif u b') ∧ dNow (mcG n b u) = dNow u ∧ dTou (mcG n b u) = dTou u ∧ dEa (mcG n b u) = dEa u := by
  intro n
  induction n with
  | zero => intro b u; exact ⟨fun b' j _ => by rw [if_neg (by omega)]; rfl, fun b' => by rw [if_neg (by omega)]; rfl, rfl, rfl, rfl⟩
  | succ n ih =>
    intro b u
    show (∀ b' j, j < 8 → dCom (mcG n (b + 1) (if dDif u b then sDif (sCom u (cpB (dNow u) (dCom u) b)) (va_up (dDif u) b false) else u)) (8 * b' + j) = _) ∧ (∀ b', dDif (mcG n (b + 1) (if dDif u b then sDif (sCom u (cpB (dNow u) (dCom u) b)) (va_up (dDif u) b false) else u)) b' = _) ∧ dNow (mcG n (b + 1) (if dDif u b then sDif (sCom u (cpB (dNow u) (dCom u) b)) (va_up (dDif u) b false) else u)) = _ ∧ dTou (mcG n (b + 1) (if dDif u b then sDif (sCom u (cpB (dNow u) (dCom u) b)) (va_up (dDif u) b false) else u)) = _ ∧ dEa (mcG n (b + 1) (if dDif u b then sDif (sCom u (cpB (dNow u) (dCom u) b)) (va_up (dDif u) b false) else u)) = _
    cases q : dDif u b with
    | false =>
      rw [if_neg (by decide)]
      obtain ⟨i1, i2, i3, i4, i5⟩ := ih (b + 1) u
      refine ⟨fun b' j hj => ?_, fun b' => ?_, i3, i4, i5⟩
      · rw [i1 b' j hj]
        by_cases e : b' = b
        · subst e; rw [if_neg (by omega), if_neg (fun z => by rw [q] at z; exact absurd z.2 (by decide))]
        · by_cases e2 : (b + 1 ≤ b' ∧ b' < b + 1 + n) ∧ dDif u b' = true
          · rw [if_pos e2, if_pos ⟨by omega, e2.2⟩]
          · rw [if_neg e2, if_neg (fun z => e2 ⟨by omega, z.2⟩)]
      · rw [i2]
        by_cases e : b' = b
        · subst e; rw [if_neg (by omega), if_pos (by omega)]; exact q
        · by_cases e2 : b + 1 ≤ b' ∧ b' < b + 1 + n
          · rw [if_pos e2, if_pos (by omega)]
          · rw [if_neg e2, if_neg (by omega)]
    | true =>
      rw [if_pos rfl]
      obtain ⟨i1, i2, i3, i4, i5⟩ := ih (b + 1) (sDif (sCom u (cpB (dNow u) (dCom u) b)) (va_up (dDif u) b false))
      refine ⟨fun b' j hj => ?_, fun b' => ?_, i3, i4, i5⟩
      · rw [i1 b' j hj]
        show (if (b + 1 ≤ b' ∧ b' < b + 1 + n) ∧ va_up (dDif u) b false b' = true then dNow u (8 * b' + j) else cpB (dNow u) (dCom u) b (8 * b' + j)) = _
        rw [cpB_at _ _ _ _ hj]
        by_cases e : b' = b
        · subst e; rw [if_neg (by omega), if_pos rfl, if_pos ⟨by omega, q⟩]
        · rw [if_neg e, va_up_ne _ _ e]
          by_cases e2 : (b + 1 ≤ b' ∧ b' < b + 1 + n) ∧ dDif u b' = true
          · rw [if_pos e2, if_pos ⟨by omega, e2.2⟩]
          · rw [if_neg e2, if_neg (fun z => e2 ⟨by omega, z.2⟩)]
      · rw [i2]
        show (if b + 1 ≤ b' ∧ b' < b + 1 + n then false else va_up (dDif u) b false b') = _
        by_cases e : b' = b
        · subst e; rw [if_neg (by omega), va_up_self, if_pos (by omega)]
        · rw [va_up_ne _ _ e]
          by_cases e2 : b + 1 ≤ b' ∧ b' < b + 1 + n
          · rw [if_pos e2, if_pos (by omega)]
          · rw [if_neg e2, if_neg (by omega)]
theorem md_char : ∀ n b u, (∀ b' j, j < 8 → dNow (mdG n b u) (8 * b' + j) = if (b ≤ b' ∧ b' < b + n) ∧ dDif u b' = true then dCom u (8 * b' + j) else dNow u (8 * b' + j)) ∧ (∀ b', dDif (mdG n b u) b' = if b ≤ b' ∧ b' < b + n then false else dDif u b') ∧ dCom (mdG n b u) = dCom u ∧ dTou (mdG n b u) = dTou u ∧ dEa (mdG n b u) = dEa u := by
  intro n
  induction n with
  | zero => intro b u; exact ⟨fun b' j _ => by rw [if_neg (by omega)]; rfl, fun b' => by rw [if_neg (by omega)]; rfl, rfl, rfl, rfl⟩
  | succ n ih =>
    intro b u
    show (∀ b' j, j < 8 → dNow (mdG n (b + 1) (if dDif u b then sDif (sNow u (cpB (dCom u) (dNow u) b)) (va_up (dDif u) b false) else u)) (8 * b' + j) = _) ∧ (∀ b', dDif (mdG n (b + 1) (if dDif u b then sDif (sNow u (cpB (dCom u) (dNow u) b)) (va_up (dDif u) b false) else u)) b' = _) ∧ dCom (mdG n (b + 1) (if dDif u b then sDif (sNow u (cpB (dCom u) (dNow u) b)) (va_up (dDif u) b false) else u)) = _ ∧ dTou (mdG n (b + 1) (if dDif u b then sDif (sNow u (cpB (dCom u) (dNow u) b)) (va_up (dDif u) b false) else u)) = _ ∧ dEa (mdG n (b + 1) (if dDif u b then sDif (sNow u (cpB (dCom u) (dNow u) b)) (va_up (dDif u) b false) else u)) = _
    cases q : dDif u b with
    | false =>
      rw [if_neg (by decide)]
      obtain ⟨i1, i2, i3, i4, i5⟩ := ih (b + 1) u
      refine ⟨fun b' j hj => ?_, fun b' => ?_, i3, i4, i5⟩
      · rw [i1 b' j hj]
        by_cases e : b' = b
        · subst e; rw [if_neg (by omega), if_neg (fun z => by rw [q] at z; exact absurd z.2 (by decide))]
        · by_cases e2 : (b + 1 ≤ b' ∧ b' < b + 1 + n) ∧ dDif u b' = true
          · rw [if_pos e2, if_pos ⟨by omega, e2.2⟩]
          · rw [if_neg e2, if_neg (fun z => e2 ⟨by omega, z.2⟩)]
      · rw [i2]
        by_cases e : b' = b
        · subst e; rw [if_neg (by omega), if_pos (by omega)]; exact q
        · by_cases e2 : b + 1 ≤ b' ∧ b' < b + 1 + n
          · rw [if_pos e2, if_pos (by omega)]
          · rw [if_neg e2, if_neg (by omega)]
    | true =>
      rw [if_pos rfl]
      obtain ⟨i1, i2, i3, i4, i5⟩ := ih (b + 1) (sDif (sNow u (cpB (dCom u) (dNow u) b)) (va_up (dDif u) b false))
      refine ⟨fun b' j hj => ?_, fun b' => ?_, i3, i4, i5⟩
      · rw [i1 b' j hj]
        show (if (b + 1 ≤ b' ∧ b' < b + 1 + n) ∧ va_up (dDif u) b false b' = true then dCom u (8 * b' + j) else cpB (dCom u) (dNow u) b (8 * b' + j)) = _
        rw [cpB_at _ _ _ _ hj]
        by_cases e : b' = b
        · subst e; rw [if_neg (by omega), if_pos rfl, if_pos ⟨by omega, q⟩]
        · rw [if_neg e, va_up_ne _ _ e]
          by_cases e2 : (b + 1 ≤ b' ∧ b' < b + 1 + n) ∧ dDif u b' = true
          · rw [if_pos e2, if_pos ⟨by omega, e2.2⟩]
          · rw [if_neg e2, if_neg (fun z => e2 ⟨by omega, z.2⟩)]
      · rw [i2]
        show (if b + 1 ≤ b' ∧ b' < b + 1 + n then false else va_up (dDif u) b false b') = _
        by_cases e : b' = b
        · subst e; rw [if_neg (by omega), va_up_self, if_pos (by omega)]
        · rw [va_up_ne _ _ e]
          by_cases e2 : b + 1 ≤ b' ∧ b' < b + 1 + n
          · rw [if_pos e2, if_pos (by omega)]
          · rw [if_neg e2, if_neg (by omega)]
theorem df_none {f g : Nat → Int64} {b : Nat} (h : ∀ j, j < 8 → f (8 * b + j) = g (8 * b + j)) : dfI f g b 8 = false := by
  cases q : dfI f g b 8 with
  | false => rfl
  | true => obtain ⟨j, h1, h2⟩ := (df_iff f g b 8).mp q; exact absurd (h j h1) h2
theorem df_same {f g : Nat → Int64} {b : Nat} (h : dfI f g b 8 = false) : ∀ j, j < 8 → f (8 * b + j) = g (8 * b + j) := fun j hj =>
  Classical.byContradiction (fun q => by rw [(df_iff f g b 8).mpr ⟨j, hj, q⟩] at h; cases h)
theorem cm_ivt {L : Nat} {u : DSt} {tl : Nat} {tp : Nat → Int32} {r : RSt} (hL0 : 96 ≤ L) (hL : L ≤ 768) (i1 : Sim L u r) (i2 : WFr L r) (hdn : ∀ q, rDn r q < 256) (i5 : ∀ p, p < 64 * L → byt (dCom u) p = rDn r p) (i6 : ∀ b, b < L → dTou u b = false ∧ dDif u b = dfI (dNow u) (dCom u) b 8) (i7 : dEa u = rCm r) (i8 : tl = rTl r ∧ tl ≤ 512 ∧ (∀ j, tp j = nI (rTp r j)) ∧ ∀ j, rTp r j < 256) (i9 : rB r) : Ivt L (cmA L u) tl tp (cmR L r) := by
  have hB := cm_B hL0 i9
  obtain ⟨a1, a2, a3, a4, a5⟩ := mc_char L 0 u
  have eC : ∀ j, j < 8 * L → dCom (cmA L u) j = dNow u j := fun j hj => by
    show dCom (mcG L 0 u) j = _
    rw [show j = 8 * (j / 8) + j % 8 by omega, a1 _ _ (by omega)]
    cases q : dDif u (j / 8) with
    | true => rw [if_pos ⟨by omega, rfl⟩]
    | false =>
      rw [if_neg (fun z => by cases z.2)]
      rw [(i6 (j / 8) (by omega)).2] at q
      exact (df_same q _ (by omega)).symm
  obtain ⟨z1, z2, z3, z4⟩ := cm_kept hL0 hL i1 i2 i5 hdn eC
  obtain ⟨D, d1, d2⟩ := cm_char hL0 r
  have S' : Sim L (cmA L u) (cmR L r) := by
    rw [d1]
    show SimH L (dNow (mcG L 0 u)) (dCom (cmA L u)) (nbR (rNd r)) (rOw r) (rNw r)
    rw [a3]
    refine ⟨fun p hp => (byt_w (eC _ (by omega))).symm, i1.2.1, i1.2.2.1, fun b hb hbL c hc => ?_⟩
    rw [byt_w (a' := dCom (cmA L u)) (a := dNow u) (p := 64 * b + c) (eC _ (by omega))]
    by_cases q : rOw r b = 0
    · rw [if_pos q]
    · rw [if_neg q]; exact (i1.2.2.2 b hb hbL c hc).trans (if_neg q)
  have W' : WFr L (cmR L r) := by rw [d1]; exact i2
  have hdf : ∀ b, b < L → dDif (cmA L u) b = dfI (dNow (cmA L u)) (dCom (cmA L u)) b 8 := fun b hb => by
    rw [df_none (fun j hj => by rw [eC _ (by omega)]; show dNow (mcG L 0 u) _ = _; rw [a3])]
    show dDif (mcG L 0 u) b = false
    rw [a2, if_pos (by omega)]
  refine ⟨S', W', z1, z2, z3, fun b hb => ⟨?_, hdf b hb⟩, ?_, ?_, hB, ?_⟩
  · show dTou (mcG L 0 u) b = false
    rw [a4]; exact (i6 b hb).1
  · rw [d1]; exact a5.trans i7
  · rw [d1]; exact i8
  · rw [(ch_dct hL0 S' W'.1.1.2.1 z3 hdf).1]
    have : dct L (dDif (cmA L u)) = 0 := dc_0 _ L 0 (fun q _ h => by show dDif (mcG L 0 u) q = false; rw [a2, if_pos (by omega)])
    omega
theorem x_commit {L : Nat} {u : DSt} {tl : Nat} {tp : Nat → Int32} {r : RSt} (hL0 : 96 ≤ L) (hL : L ≤ 768) (I : Ivt L u tl tp r) : Ivt L (cmA L u) tl tp (cmR L r) ∧ chR L r = dct L (dDif u) := by
  obtain ⟨i1, i2, i3, i4, i5, i6, i7, i8, i9, i10⟩ := I
  exact ⟨cm_ivt hL0 hL i1 i2 i4.1.2.2.2 i5 i6 i7 i8 i9, (ch_dct hL0 i1 i2.1.1.2.1 i5 (fun b hb => (i6 b hb).2)).1⟩
theorem x_drop {L : Nat} {u : DSt} {tl : Nat} {tp : Nat → Int32} {r : RSt} (hL0 : 96 ≤ L) (hL : L ≤ 768) (I : Ivt L u tl tp r) : Ivt L (drA L u) tl tp (drR r) := by
  have B := I.2.2.2.2.2.2.2.2.1
  have hB : rB (drR r) := rBc_nw (rBc_ow (rBc_nd B (fun q => (B q).2.2.2.2.1)) (fun q => (B q).2.2.2.2.2.1)) (fun q => (B q).2.2.2.2.2.2.1)
  obtain ⟨i1, i2, i3, i4, i5, i6, i7, i8, i9, i10⟩ := I
  obtain ⟨a1, a2, a3, a4, a5⟩ := md_char L 0 u
  have eN : ∀ j, j < 8 * L → dNow (drA L u) j = dCom u j := fun j hj => by
    show dNow (mdG L 0 u) j = _
    rw [show j = 8 * (j / 8) + j % 8 by omega, a1 _ _ (by omega)]
    cases q : dDif u (j / 8) with
    | true => rw [if_pos ⟨by omega, rfl⟩]
    | false =>
      rw [if_neg (fun z => by cases z.2)]
      rw [(i6 (j / 8) (by omega)).2] at q
      exact df_same q _ (by omega)
  have eC : dCom (drA L u) = dCom u := a3
  have k1 : ∀ q, q < 1280 → rNd (drR r) q = rKn r q := fun q hq => if_pos hq
  have k2 : ∀ b, b < L → rOw (drR r) b = rKo r b := fun b hb => if_pos (by omega)
  have k3 : ∀ b, 59 ≤ b → b < L → rKo r b ≠ 0 → ∀ c, c < 64 → rNw (drR r) (64 * b + c) = rDn r (64 * b + c) := fun b _ hb _ c hc => if_pos (by omega)
  have k4 : ∀ q, rNw (drR r) q < 256 := fun q => by
    show cpM (rDn r) (rNw r) 49152 q < 256
    unfold cpM; split
    · exact i4.1.2.2.2 q
    · exact i2.1.2.2.2 q
  have S' : Sim L (drA L u) (drR r) := SimH.cg hL0 i3 eN (fun j _ => by rw [eC]) (fun i hi k hk => nb_cg i4.1.1.1 k1 hi hk) k2 k3
  have W' : WFr L (drR r) := WFt.cg hL0 i4 k1 k2 k3 k4
  have hdf : ∀ b, b < L → dDif (drA L u) b = dfI (dNow (drA L u)) (dCom (drA L u)) b 8 := fun b hb => by
    rw [df_none (fun j hj => by rw [eN _ (by omega), eC])]
    show dDif (mdG L 0 u) b = false
    rw [a2, if_pos (by omega)]
  refine ⟨S', W', by rw [eC]; exact i3, i4, by rw [eC]; exact i5, fun b hb => ⟨?_, hdf b hb⟩, a5.trans i7, i8, hB, ?_⟩
  · show dTou (mdG L 0 u) b = false
    rw [a4]; exact (i6 b hb).1
  · rw [(ch_dct hL0 S' W'.1.1.2.1 (by rw [eC]; exact i5) hdf).1]
    have : dct L (dDif (drA L u)) = 0 := dc_0 _ L 0 (fun q _ h => by show dDif (mdG L 0 u) q = false; rw [a2, if_pos (by omega)])
    omega
