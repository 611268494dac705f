/-! A CALL'S END: settled, undone, committed early; commit, drop. -/
theorem ivt_cls {L : Nat} {u st : DSt} {tl : Nat} {tp : Nat → Int32} {r : RSt} (hL0 : 96 ≤ L) (I : Ivt L u tl tp r) (e1 : ∀ j, j < 8 * L → dNow st j = dNow u j) (e2 : dCom st = dCom u) (e3 : ∀ b, b < L → dTou st b = false ∧ dDif st b = dDif u b) (e4 : dEa st = dEa u) : Ivt L st tl tp r := by
  obtain ⟨i1, i2, i3, i4, i5, i6, i7, i8, i9, i10⟩ := I
  refine ⟨SimH.cg hL0 i1 e1 (fun j _ => by rw [e2]) (fun _ _ _ _ => rfl) (fun _ _ => rfl) (fun _ _ _ _ _ _ => rfl), i2, by rw [e2]; exact i3, i4, by rw [e2]; exact i5, fun b hb => ⟨(e3 b hb).1, ?_⟩, e4.trans i7, i8, i9, i10⟩
  rw [(e3 b hb).2, (i6 b hb).2, e2]
  exact df_eq (fun j hj => (e1 _ (by omega)).symm) (fun _ _ => rfl) 8 (Nat.le_refl _)
theorem ivt_ref {L : Nat} {u : DSt} {tl : Nat} {tp : Nat → Int32} {r r' : RSt} (hL0 : 96 ≤ L) (I : Ivt L u tl tp r) (e1 : ∀ q, q < 1280 → rNd r' q = rNd r q) (e2 : ∀ b, b < L → rOw r' b = rOw r b) (e3 : ∀ b, 59 ≤ b → b < L → rOw r b ≠ 0 → ∀ c, c < 64 → rNw r' (64 * b + c) = rNw r (64 * b + c)) (e4 : ∀ q, rNw r' q < 256)
    (e5 : rCm r' = rCm r ∧ rTl r' = rTl r ∧ rTp r' = rTp r ∧ rKn r' = rKn r ∧ rKo r' = rKo r ∧ rDn r' = rDn r) (B : rB r') : Ivt L u tl tp r' := by
  obtain ⟨i1, i2, i3, i4, i5, i6, i7, i8, i9, i10⟩ := I
  obtain ⟨f1, f2, f3, f4, f5, f6⟩ := e5
  have S' : Sim L u r' := SimH.cg hL0 i1 (fun _ _ => rfl) (fun _ _ => rfl) (fun i hi k hk => nb_cg i2.1.1.1 e1 hi hk) e2 e3
  have W' : WFr L r' := WFt.cg hL0 i2 e1 e2 e3 e4
  refine ⟨S', W', by rw [f4, f5, f6]; exact i3, by rw [f4, f5, f6]; exact i4, by rw [f6]; exact i5, i6, i7.trans f1.symm, by rw [f2, f3]; exact i8, B, ?_⟩
  rw [(ch_dct hL0 S' W'.1.1.2.1 (by rw [f6]; exact i5) (fun b hb => (i6 b hb).2)).1, ← (ch_dct hL0 i1 i2.1.1.2.1 i5 (fun b hb => (i6 b hb).2)).1]; exact i10
theorem ivt_und {L : Nat} {u u3 : DSt} {tl : Nat} {tp : Nat → Int32} {r : RSt} (hL0 : 96 ≤ L) (I : Ivt L u tl tp r) (T : Tch L u u3) : Ivt L (und L u3) tl tp r := by
  obtain ⟨a1, a2, a3, a4, a5⟩ := un_char L 0 u3
  obtain ⟨b1, b2, b3, b4, b5⟩ := fg_char L 0 (unG L 0 u3)
  refine ivt_cls hL0 I (fun j hj => ?_) ?_ (fun b hb => ⟨?_, ?_⟩) ?_
  · show dNow (fgG L 0 (unG L 0 u3)) j = _
    rw [b2, show j = 8 * (j / 8) + j % 8 by omega, a1 _ _ (by omega)]
    have t := T.1 (j / 8) (by omega) (j % 8) (by omega)
    cases q : dTou u3 (j / 8) with
    | true => rw [if_pos ⟨by omega, rfl⟩]; exact t.1 q
    | false => rw [if_neg (fun z => by cases z.2)]; exact t.2 q
  · exact b3.trans (a3.trans T.2.1)
  · show dTou (fgG L 0 (unG L 0 u3)) b = false
    rw [b1, if_pos (by omega)]
  · show dDif (fgG L 0 (unG L 0 u3)) b = _
    rw [b4, a4, T.2.2.1]
  · exact b5.trans (a5.trans T.2.2.2)
/-- the differences behind a change -/
theorem st_dif {L : Nat} {u u2 : DSt} (T : Tch L u u2) (hd : ∀ b, b < L → dDif u b = dfI (dNow u) (dCom u) b 8) : ∀ b, b < L → dDif (stG L 0 u2) b = dfI (dNow u2) (dCom u2) b 8 := by
  intro b hb
  obtain ⟨a1, -⟩ := st_char L 0 u2
  rw [a1]
  cases q : dTou u2 b with
  | true => rw [if_pos ⟨by omega, rfl⟩]
  | false =>
    rw [if_neg (fun z => by cases z.2), T.2.2.1, hd b hb, T.2.1]
    exact df_eq (fun j hj => ((T.1 b hb j hj).2 q).symm) (fun _ _ => rfl) 8 (Nat.le_refl _)
theorem bb_nd {r r1 : RSt} (F : Fxk (ksR r) r1) : (∀ q, q < 1280 → rNd (bbR r1) q = rNd r q) ∧ (∀ b, b < 768 → rOw (bbR r1) b = rOw r b) ∧ (∀ q, q < 49152 → rNw (bbR r1) q = rNw r q) ∧ ((∀ q, rNw r q < 256) → ∀ q, rNw (bbR r1) q < 256) ∧ rTh (bbR r1) = rTh r ∧ rCm (bbR r1) = rCm r ∧ rTl (bbR r1) = rTl r ∧ rTp (bbR r1) = rTp r ∧ rKn (bbR r1) = rKn r ∧ rKo (bbR r1) = rKo r ∧ rDn (bbR r1) = rDn r := by
  obtain ⟨f1, f2, f3, f4, f5, f6⟩ := F
  have a1 : rAn r1 = cpM (rNd r) (rAn r) 1280 := congrArg (fun x => x.2.2.2.1) f5
  have a2 : rAo r1 = cpM (rOw r) (rAo r) 768 := congrArg (fun x => x.2.2.2.2.1) f5
  have a3 : rAw r1 = cpM (rNw r) (rAw r) 49152 := congrArg (fun x => x.2.2.2.2.2) f5
  refine ⟨fun q hq => ?_, fun q hq => ?_, fun q hq => ?_, fun h q => ?_, f1, f2, f3, f4, congrArg (fun x => x.1) f5, congrArg (fun x => x.2.1) f5, congrArg (fun x => x.2.2.1) f5⟩
  · show cpM (rAn r1) (rNd r1) 1280 q = _
    rw [a1]; unfold cpM; rw [if_pos hq, if_pos hq]
  · show cpM (rAo r1) (rOw r1) 768 q = _
    rw [a2]; unfold cpM; rw [if_pos hq, if_pos hq]
  · show cpM (rAw r1) (rNw r1) 49152 q = _
    rw [a3]; unfold cpM; rw [if_pos hq, if_pos hq]
  · show cpM (rAw r1) (rNw r1) 49152 q < 256
    rw [a3]; unfold cpM
    by_cases z : q < 49152
    · rw [if_pos z, if_pos z]; exact h q
    · rw [if_neg z]; exact f6 h q
theorem fin {L : Nat} {u : DSt} {tl : Nat} {tp : Nat → Int32} {r : RSt} {op : RSt → Int32 × RSt} {P : RSt → Prop} {A : Int32} {st u2 : DSt} (hL0 : 96 ≤ L) (hL : L ≤ 768) (I : Ivt L u tl tp r) (hO : ∀ r', Sim L u r' → WFr L r' → rB r' → rTp r' = rTp r → OpS L r' A u2 (op r')) (hC : OpC L u A st u2) (hP : ∀ r', Sim L u r' → WFr L r' → rB r' → P r') :
    dsP L op P r ∧ (dsR L op r).1 = A ∧ Ivt L st tl tp (dsR L op r).2 ∧ rTh (dsR L op r).2 = rTh r := by
  have I0 := I
  obtain ⟨i1, i2, i3, i4, i5, i6, i7, i8, i9, i10⟩ := I
  have Bk := ks_B i9
  obtain ⟨o1, o2, o3, o4⟩ := hO (ksR r) i1 i2 Bk rfl
  obtain ⟨n1, n2, n3, n4, n5, n6, n7, n8, n9, n10, n11⟩ := bb_nd o2
  have Bb := bb_B o3
  have n2' : ∀ b, b < L → rOw (bbR (op (ksR r)).2) b = rOw r b := fun b hb => n2 b (by omega)
  have n3' : ∀ b, 59 ≤ b → b < L → rOw r b ≠ 0 → ∀ c, c < 64 → rNw (bbR (op (ksR r)).2) (64 * b + c) = rNw r (64 * b + c) := fun b _ hb _ c hc => n3 _ (by omega)
  have Ib : Ivt L u tl tp (bbR (op (ksR r)).2) := ivt_ref hL0 I0 n1 n2' n3' (n4 i2.1.2.2.2) ⟨n6, n7, n8, n9, n10, n11⟩ Bb
  have Sb := Ib.1
  have Wb : WFr L (bbR (op (ksR r)).2) := Ib.2.1
  -- the reference behind the early commit
  have hr3 : rdR L (op (ksR r)).2 = qCm (cmR L (bbR (op (ksR r)).2)) (rCm (cmR L (bbR (op (ksR r)).2)) + nI 1) := rfl
  obtain ⟨D, d1, d2⟩ := cm_char hL0 (bbR (op (ksR r)).2)
  have S3 : Sim L u (rdR L (op (ksR r)).2) := by rw [hr3, d1]; exact Sb
  have W3 : WFr L (rdR L (op (ksR r)).2) := by rw [hr3, d1]; exact Wb
  have B3 : rB (rdR L (op (ksR r)).2) := cm_B hL0 Bb
  have tp3 : rTp (rdR L (op (ksR r)).2) = rTp r := by rw [hr3, d1]; exact n8
  have hX : ∀ {r' : RSt}, WFr L r' → ∀ i, i < 64 → rNd r' (20 * i + 2) ≤ 8 := fun W' i hi => (W'.1.1.1 i hi).1
  refine ⟨⟨hP _ i1 i2 Bk, o3, fun h => ?_⟩, ?_⟩
  · rw [← o1] at h
    exact ⟨hX (o4 h).2.1, hX Wb, fun _ => ⟨B3, hP _ S3 W3 B3⟩⟩
  · unfold dsR
    rw [← o1]
    by_cases hA : 0 ≤ A
    · rw [if_pos hA]
      obtain ⟨S1, W1, -⟩ := o4 hA
      obtain ⟨hst, T⟩ := hC.1 hA
      have f5 := o2.2.2.2.2.1
      have dn1 : rDn (op (ksR r)).2 = rDn r := congrArg (fun x => x.2.2.1) f5
      have kn1 : rKn (op (ksR r)).2 = rKn r := congrArg (fun x => x.1) f5
      have ko1 : rKo (op (ksR r)).2 = rKo r := congrArg (fun x => x.2.1) f5
      have hdif := st_dif T (fun b hb => (i6 b hb).2)
      have hcom1 : ∀ p, p < 64 * L → byt (dCom u2) p = rDn (op (ksR r)).2 p := fun p hp => by rw [T.2.1, dn1]; exact i5 p hp
      obtain ⟨c1, -⟩ := ch_dct hL0 S1 W1.1.1.2.1 hcom1 hdif
      obtain ⟨s1, s2, s3, s4, s5, s6⟩ := st_char L 0 u2
      by_cases hch : 24 < chR L (op (ksR r)).2
      · rw [if_pos hch]
        obtain ⟨p1, p2, p3, p4⟩ := hO _ S3 W3 B3 tp3
        obtain ⟨S4, W4, C4⟩ := p4 hA
        have q5 := p2.2.2.2.2.1
        have hst2 : st = fgG L 0 (cwb L (stG L 0 u2)) := by
          rw [hst]; unfold stl fgt; rw [if_pos (by rw [← c1]; exact hch)]
        obtain ⟨g1, g2, g3, g4, g5⟩ := fg_char L 0 (cwb L (stG L 0 u2))
        have fr7 : ∀ b, b < L → frN (dNow u2) b = decide (rOw (op (rdR L (op (ksR r)).2)).2 b = 0) := fun b hb => S_free S4 hb hL
        have ho4 := W4.1.1.2.1
        have f57 : frN (dNow (stG L 0 u2)) 57 = false := by rw [s2, fr7 57 (by omega), ho4 57 (by decide)]; rfl
        have f58 : frN (dNow (stG L 0 u2)) 58 = false := by rw [s2, fr7 58 (by omega), ho4 58 (by decide)]; rfl
        obtain ⟨v1, v2, v3, v4, v5⟩ := cw_char L L 0 (stG L 0 u2) (by omega) f57 f58
        have old : ∀ b, b < L → ∀ j, j < 8 → (if dTou (stG L 0 u2) b = true then dBef (stG L 0 u2) (8 * b + j) else dNow (stG L 0 u2) (8 * b + j)) = dNow u (8 * b + j) := fun b hb j hj => by
          rw [s3, s5, s2]
          have t := T.1 b hb j hj
          cases q : dTou u2 b with
          | true => rw [if_pos rfl]; exact t.1 q
          | false => rw [if_neg (by decide)]; exact t.2 q
        have eCom : ∀ j, j < 8 * L → dCom st j = dNow u j := fun j hj => by
          rw [hst2, g3]
          show dCom (cwG L L 0 (stG L 0 u2)) j = _
          have := v1 (j / 8) (j % 8) (by omega)
          rw [if_pos (by omega), old _ (by omega) _ (by omega)] at this
          rw [show j = 8 * (j / 8) + j % 8 by omega]; exact this
        have eNow : ∀ b, b < L → ∀ j, j < 8 → dNow st (8 * b + j) = if rOw (op (rdR L (op (ksR r)).2)).2 b = 0 then dNow u (8 * b + j) else dNow u2 (8 * b + j) := fun b hb j hj => by
          rw [hst2, g2]
          show dNow (cwG L L 0 (stG L 0 u2)) (8 * b + j) = _
          rw [v2 b j hj, s2, fr7 b hb]
          by_cases q : rOw (op (rdR L (op (ksR r)).2)).2 b = 0
          · rw [if_pos ⟨by omega, decide_eq_true q⟩, if_pos q]
            have := old b hb j hj
            rw [s2] at this; exact this
          · rw [if_neg (fun z => q (of_decide_eq_true z.2)), if_neg q]
        have bNow : ∀ b, b < L → ∀ c, c < 64 → byt (dNow st) (64 * b + c) = if rOw (op (rdR L (op (ksR r)).2)).2 b = 0 then byt (dNow u) (64 * b + c) else byt (dNow u2) (64 * b + c) := fun b hb c hc => by
          have := eNow b hb (c / 8) (by omega)
          rw [show 8 * b + c / 8 = (64 * b + c) / 8 by omega] at this
          by_cases q : rOw (op (rdR L (op (ksR r)).2)).2 b = 0
          · rw [if_pos q] at this ⊢; exact byt_w this
          · rw [if_neg q] at this ⊢; exact byt_w this
        have hdn : ∀ q, rDn (bbR (op (ksR r)).2) q < 256 := by rw [n11]; exact i4.1.2.2.2
        obtain ⟨z1, z2, z3, z4⟩ := cm_kept hL0 hL Sb Wb (by rw [n11]; exact i5) hdn eCom
        have kn4 : rKn (op (rdR L (op (ksR r)).2)).2 = rKn (cmR L (bbR (op (ksR r)).2)) := congrArg (fun x => x.1) q5
        have ko4 : rKo (op (rdR L (op (ksR r)).2)).2 = rKo (cmR L (bbR (op (ksR r)).2)) := congrArg (fun x => x.2.1) q5
        have dn4 : rDn (op (rdR L (op (ksR r)).2)).2 = rDn (cmR L (bbR (op (ksR r)).2)) := congrArg (fun x => x.2.2.1) q5
        have Sst : Sim L st (op (rdR L (op (ksR r)).2)).2 := by
          refine ⟨fun p hp => ?_, fun i hi k hk => ?_, fun n hn => ?_, fun b hb hbL c hc => ?_⟩
          · rw [show p = 64 * (p / 64) + p % 64 by omega, bNow _ (by omega) _ (by omega), if_neg (by rw [ho4 _ (by omega)]; decide), byt_w (eCom _ (by omega))]
            rw [show 64 * (p / 64) + p % 64 = p by omega, S4.1 p hp, T.2.1, ← i1.1 p hp]
          · have hp : 1600 + 32 * i + k = 64 * ((1600 + 32 * i + k) / 64) + (1600 + 32 * i + k) % 64 := by omega
            rw [hp, bNow _ (by omega) _ (by omega), if_neg (by rw [ho4 _ (by omega)]; decide), ← hp]; exact S4.2.1 i hi k hk
          · have hp : 456 + n / 64 = 8 * ((456 + n / 64) / 8) + (456 + n / 64) % 8 := by omega
            rw [hp, eNow _ (by omega) _ (by omega), if_neg (by rw [ho4 _ (by omega)]; decide), ← hp]; exact S4.2.2.1 n hn
          · rw [bNow b hbL c hc, byt_w (a' := dCom st) (a := dNow u) (p := 64 * b + c) (eCom _ (by omega))]
            by_cases q : rOw (op (rdR L (op (ksR r)).2)).2 b = 0
            · rw [if_pos q, if_pos q]
            · rw [if_neg q, if_neg q, S4.2.2.2 b hb hbL c hc, if_neg q]
        refine ⟨p1.symm, ⟨Sst, W4, by rw [kn4, ko4, dn4]; exact z1, by rw [kn4, ko4, dn4]; exact z2, by rw [dn4]; exact z3, fun b hb => ⟨?_, ?_⟩, ?_, ?_, p3, ?_⟩, ?_⟩
        · rw [hst2, g1, if_pos (by omega)]
        · rw [hst2, g4, g2, g3]
          show dDif (cwG L L 0 (stG L 0 u2)) b = _
          rw [v3, if_pos (by omega)]; rfl
        · rw [hst2, g5]
          show dEa (cwG L L 0 (stG L 0 u2)) + nI 1 = _
          rw [v5, s6, T.2.2.2, i7, p2.2.1, hr3, d1]
          show rCm r + nI 1 = rCm (bbR (op (ksR r)).2) + nI 1
          rw [n6]
        · rw [p2.2.2.1, p2.2.2.2.1, tp3, hr3, d1]
          show tl = rTl (bbR (op (ksR r)).2) ∧ _
          rw [n7]; exact i8
        · have bo : ∀ b, 25 ≤ b → b < L → ∀ c, c < 64 → rDn (op (rdR L (op (ksR r)).2)).2 (64 * b + c) = boR L (rdR L (op (ksR r)).2) b c := fun b b1 b2 c hc => by
            rw [dn4, hr3, d1]
            show D (64 * b + c) = boR L (qDn (bbR (op (ksR r)).2) D) b c
            have hD : D (64 * b + c) = boR L (bbR (op (ksR r)).2) b c := by
              rw [d2, if_pos (by omega), show (64 * b + c) / 64 = b by omega, show (64 * b + c) % 64 = c by omega]
            by_cases o : b < 25 ∨ rOw (bbR (op (ksR r)).2) b = 0
            · unfold boR; rw [show rOw (qDn (bbR (op (ksR r)).2) D) b = rOw (bbR (op (ksR r)).2) b from rfl, if_pos o]
            · rw [hD]; unfold boR; rw [if_neg o, if_neg (show ¬ (b < 25 ∨ rOw (qDn (bbR (op (ksR r)).2) D) b = 0) from o)]
          exact ch_bound C4 W4.1.1.1 W3.1.1.2.1 ho4 bo hL hL0
        · rw [p2.1, hr3, d1]; exact n5
      · rw [if_neg hch]
        have hst2 : st = fgG L 0 (stG L 0 u2) := by
          rw [hst]; unfold stl fgt; rw [if_neg (by rw [← c1]; exact hch)]
        obtain ⟨g1, g2, g3, g4, g5⟩ := fg_char L 0 (stG L 0 u2)
        have eC : dCom st = dCom u := by rw [hst2, g3, s4, T.2.1]
        refine ⟨o1.symm, ⟨?_, W1, by rw [eC, kn1, ko1, dn1]; exact i3, by rw [kn1, ko1, dn1]; exact i4, by rw [eC, dn1]; exact i5, fun b hb => ⟨?_, ?_⟩, ?_, ?_, o3, by omega⟩, o2.1⟩
        · show SimH L (dNow st) (dCom st) _ _ _
          rw [hst2, g2, g3, s2, s4]; exact S1
        · rw [hst2, g1, if_pos (by omega)]
        · rw [hst2, g4, g2, g3, hdif b hb, s2, s4]
        · rw [hst2, g5, s6, T.2.2.2, i7, o2.2.1]; rfl
        · rw [o2.2.2.1, o2.2.2.2.1]; exact i8
    · rw [if_neg hA]
      refine ⟨rfl, ?_, n5⟩
      rcases hC.2 hA with q | ⟨u3, T, q⟩
      · rw [q]; exact Ib
      · rw [q]; exact ivt_und hL0 Ib T
