/-! move. -/
def mvU (L : Nat) (u : DSt) (d w d2 w2 : Nat) : DSt :=
  if d = d2 ∧ w = w2 then u
  else if ent L (dNow u) d2 w2 = -1 then (adE L (mv1 L u (eof L (dNow u) d w)) d2 (nI w2) (nI (ino L (dNow u) (eof L (dNow u) d w)))).2
  else stE L (rel L (mv1 L u (eof L (dNow u) d w)) (ino L (dNow (mv1 L u (eof L (dNow u) d w))) (ent L (dNow u) d2 w2))) (ent L (dNow u) d2 w2) (nI w2) (nI (ino L (dNow u) (eof L (dNow u) d w)))
theorem pl_row {L : Nat} {u u' : DSt} {r r' : RSt} {i c : Nat} (hL0 : 96 ≤ L) (hL : L ≤ 768) (S : Sim L u r) (S' : Sim L u' r') (W : wfN (rNd r) L) (W' : wfN (rNd r') L) (hi : i < 64) (e : ∀ q, 20 * i ≤ q → q < 20 * i + 20 → rNd r' q = rNd r q) : plc L (dNow u') i c = plc L (dNow u) i c := by
  rw [R_pl S hL0 hL hi W, R_pl S' hL0 hL hi W', bsR_row e (W' i hi).1, bkR_row e]
theorem ChB.rf (L : Nat) (r : RSt) : ChB L r r := ⟨[], [], by decide, fun b _ _ h3 h4 => by rcases h4 with z | ⟨c, _, z⟩; exact absurd z h3; exact absurd rfl z, fun q _ h => absurd rfl h⟩
theorem mv_op {L : Nat} {u : DSt} {r : RSt} {f : Nat → Int32} {d w d2 w2 : Nat} (hL0 : 96 ≤ L) (hL : L ≤ 768) (T0 : Tch L u u) (hst : stl L u = u) (S : Sim L u r) (W : WFr L r) (B : rB r) (hd : d < 64) (hw1 : 1 ≤ w) (hd2 : d2 < 64) (hw2 : 1 ≤ w2) (hw3 : w2 < 65536) :
    OpS L r (mvC L u f d w d2 w2).1 (mvU L u d w d2 w2) (mvR L r d w d2 w2) ∧ OpC L u (mvC L u f d w d2 w2).1 (mvC L u f d w d2 w2).2 (mvU L u d w d2 w2) := by
  have hb := W.1.bs hd
  have hs := W.1.sz hL hd
  have hb2 := W.1.bs hd2
  have hs2 := W.1.sz hL hd2
  have T := W.2.2
  unfold mvC mvR
  rcases R_eof hL0 hL S W.1 hd w with ⟨k, he⟩ | ⟨k, k2, h1, he, h3⟩ | ⟨k, k2, j, hj, h1, he, hp, hnm⟩
  · rw [he, if_neg k, if_neg k]; exact ⟨OpS.no k B, OpC.no k⟩
  · rw [he, if_neg (show ¬ (0 : Int32) ≤ -1 by decide), if_pos k, h1, if_neg (show ¬ (0 : Int32) ≤ -1 by decide)]
    exact ⟨OpS.no (show ¬ (0 : Int32) ≤ -1 by decide) B, OpC.no (show ¬ (0 : Int32) ≤ -1 by decide)⟩
  · have hPi : PE (rNd r) (rNw r) d j w (inE (rNd r) (rNw r) d j) := ⟨hd, k2, hj, hnm, hw1, rfl⟩
    have hin := R_in hL0 hL S W.1.1 hd (show 4 * j + 4 ≤ 64 * bsR (rNd r) d by omega)
    unfold mvU m1R
    rw [he, if_pos hp, if_pos k, h1, if_pos (nI_pos' (by omega)), nI_clamp (by omega), hin, R_kd hL0 hL S hd2 (W.1.2.1 d2 hd2).1, show iaR r d j = inE (rNd r) (rNw r) d j from rfl]
    generalize hi9 : inE (rNd r) (rNw r) d j = i at *
    have ti := T.2.1 _ _ _ _ hPi
    have eKi : iK L (dNow u) i = rNd r (20 * i) := R_K S hL0 hL ti.2.2.2.2.1
    by_cases kk : 0 ≤ bdR r d2
    · rw [if_pos kk, if_pos kk]
      have k3 := (bd_iff (W.1.2.1 d2 hd2).1).mp kk
      have hwit := R_wit (f := f) hL0 hL S W hd2 k3 ti.2.2.2.1 ti.2.2.2.2.1
      have nob : ¬ (rNd r (20 * i) = 2 ∧ upG r i 65 (nI d2) = true) → ∀ n, ¬ BlN (PE (rNd r) (rNw r)) i n d2 := fun hh n q => by
        by_cases z : rNd r (20 * i) = 2
        · exact hh ⟨z, (up_is T ti.2.2.2.2.1 hd2).mpr ⟨n, q⟩⟩
        · have := bl_leaf (fun e w j y => z y.2.1) n d2 q
          rw [this] at k3; exact z k3
      have S1 := stE_sim (e := j) (w := 0) (i := 0) hL0 hL S W.1.1 hd (by omega) (by decide) (by decide) rfl
      obtain ⟨W1, P1, N1⟩ := en_char (e := j) (w := 0) (i := 0) W.1 hd k2 hj (by decide) (by decide)
      have W1 : WFk L (rNd (enR r d j 0 0)) (rOw (enR r d j 0 0)) (rNw (enR r d j 0 0)) := W1
      have P1 : PE (rNd (enR r d j 0 0)) (rNw (enR r d j 0 0)) = upE4 (PE (rNd r) (rNw r)) d j 0 0 := P1
      have N1 := N1 W.2.1 (fun _ => rfl)
      have f1 : Fdk L r (enR r d j 0 0) 3 := fd_en (by decide) (by decide)
      have B1 : rB (enR r d j 0 0) := enR_B B (by decide) (by decide)
      rcases R_ent hL0 hL S W.1 hd2 k3 w2 with ⟨g1, g2, g3⟩ | ⟨t, ht, g1, g2, g4⟩
      · have nself : ¬ (d = d2 ∧ w = w2) := fun z => by obtain ⟨rfl, rfl⟩ := z; exact g3 j hj hnm
        rw [if_neg nself, if_neg nself, g1, g2, if_neg (show ¬ ((0 : Int32) ≤ -1 ∧ d2 = d ∧ (-1 : Int32) = nI j) from fun z => absurd z.1 (by decide)), if_pos rfl]
        have eF : mvF L (dNow u) f i d2 (-1) = if rNd r (20 * i) = 2 ∧ upG r i 65 (nI d2) = true then -7 else nI 0 := by
          unfold mvF
          rw [if_neg (fun z => z.1 rfl), if_neg (fun z => z.1 rfl), eKi, hwit]
        unfold m2R
        rw [eF, if_neg (show ¬ (0 : Int32) ≤ -1 by decide)]
        by_cases c : rNd r (20 * i) = 2 ∧ upG r i 65 (nI d2) = true
        · rw [if_pos c, if_neg (show ¬ (0 : Int32) ≤ -7 by decide), if_pos c]
          exact ⟨OpS.no (show ¬ (0 : Int32) ≤ -7 by decide) B, OpC.no (show ¬ (0 : Int32) ≤ -7 by decide)⟩
        · rw [if_neg c, if_pos (show (0 : Int32) ≤ nI 0 by decide), if_neg c]
          unfold mvD m3R
          rw [if_pos rfl]
          obtain ⟨a1, a2⟩ := ad_sim (d := d2) (w := w2) (i := i) hL0 hL S1 W1 hd2 k3 hw2 hw3 (by omega)
          have fa := f1.tr (fd_ad (w := w2) (i := i) (r := enR r d j 0 0) W1.1 hd2 (W1.2.1 d2 hd2).2.1 hw3 (by omega))
          have Ba := rB_ad (i := i) (w := w2) hL B1 W1.1.1 hd2 (by show rNd r (20 * d2 + 1) < 65000; omega) hw3 (by omega)
          rw [a1]
          by_cases z : (adR L (enR r d j 0 0) d2 w2 i).1 = true
          · rw [if_pos z, if_pos z]
            obtain ⟨S2, c1, c2, e, c3, c4, c5⟩ := a2 z
            refine ⟨⟨rfl, fa.1, Ba, fun _ => ⟨S2, ⟨c1, c5 N1, ?_⟩, fa.2.ch [d2] (show 3 + 5 + 1 ≤ 22 by decide) (fun q _ hq => ?_)⟩⟩, fun _ => ⟨rfl, T_adE (T_stE T0 _ _ _) _ _ _⟩, fun q => absurd (show (0 : Int32) ≤ nI 0 by decide) q⟩
            · refine tr_ext (K := KE (rNd r)) (fun a ha => c2 _ (by omega)) (fun d' e' w' i' => ?_) (tr_mv1 (e2 := e) (w2 := w2) T hPi hd2 k3 hw2 (nob c) (fun w' j' y => c3 w' j' (by rw [P1]; exact y)) (fun e' j' y => g3 e' y.2.2.1 y.2.2.2.1))
              rw [c4, P1]
            · rw [List.mem_singleton]
              exact Classical.byContradiction (fun y => hq (c2 q (by omega)))
          · rw [if_neg z, if_neg z]
            exact ⟨⟨rfl, fa.1, Ba, fun q => absurd q (show ¬ (0 : Int32) ≤ -4 by decide)⟩, fun q => absurd q (show ¬ (0 : Int32) ≤ -4 by decide), fun _ => Or.inr ⟨_, T_adE (T_stE T0 _ _ _) _ _ _, rfl⟩⟩
      · have hPv : PE (rNd r) (rNw r) d2 t w2 (inE (rNd r) (rNw r) d2 t) := ⟨hd2, k3, ht, g4, hw2, rfl⟩
        by_cases self : d = d2 ∧ w = w2
        · rw [if_pos self, if_pos self, g1]
          obtain ⟨rfl, rfl⟩ := self
          have := T.2.2.2.1 _ _ _ _ _ _ hPi hPv
          subst this
          rw [if_pos ⟨nI_pos' (by omega), rfl, rfl⟩]
          exact ⟨⟨rfl, Fxk.rf r, B, fun _ => ⟨S, W, ChB.rf L r⟩⟩, fun _ => ⟨hst.symm, T0⟩, fun q => absurd (show (0 : Int32) ≤ nI 0 by decide) q⟩
        · have hne : ¬ (d = d2 ∧ j = t) := fun z => self (by obtain ⟨rfl, rfl⟩ := z; exact ⟨rfl, hnm.symm.trans g4⟩)
          obtain ⟨p1, p2⟩ := pl_ge hL0 hL S W.1 hd2 ht
          rw [if_neg self, if_neg self, g1, g2, if_neg (show ¬ (0 ≤ nI t ∧ d2 = d ∧ nI t = nI j) from fun z => hne ⟨z.2.1.symm, ((nI_eq (by omega) (by omega)).mp z.2.2).symm⟩), if_neg p2]
          have hinv := R_in hL0 hL S W.1.1 hd2 (show 4 * t + 4 ≤ 64 * bsR (rNd r) d2 by omega)
          generalize hv9 : inE (rNd r) (rNw r) d2 t = v at *
          have tv := T.2.1 _ _ _ _ hPv
          have hv := tv.2.2.2.2.1
          have eKv : iK L (dNow u) v = rNd r (20 * v) := R_K S hL0 hL hv
          have hE := R_hsE (v := v) hL0 hL S W.1 hv
          have ki := (W.1.2.1 i ti.2.2.2.2.1).1
          have kv := (W.1.2.1 v hv).1
          have ki0 : rNd r (20 * i) ≠ 0 := ti.2.2.2.2.2.1
          have kv0 : rNd r (20 * v) ≠ 0 := tv.2.2.2.2.2.1
          unfold m2R
          rw [if_pos (nI_pos' (by omega)), nI_clamp (by omega), show iaR r d2 t = v from hv9]
          by_cases ce : rNd r (20 * i) = rNd r (20 * v)
          · rw [if_pos ce]
            by_cases cv : rNd r (20 * v) = 2 ∧ ieR r v = false
            · have eF : mvF L (dNow u) f i d2 (plc L (dNow u) d2 (4 * t)) = -6 := by
                unfold mvF
                rw [hinv, eKi, eKv, if_neg (fun z => z.2 (by rw [ce])), if_pos ⟨p2, hE.mpr cv⟩]
              rw [eF, if_neg (show ¬ (0 : Int32) ≤ -6 by decide), if_pos cv]
              exact ⟨OpS.no (show ¬ (0 : Int32) ≤ -6 by decide) B, OpC.no (show ¬ (0 : Int32) ≤ -6 by decide)⟩
            · rw [if_neg cv]
              have eF : mvF L (dNow u) f i d2 (plc L (dNow u) d2 (4 * t)) = if rNd r (20 * i) = 2 ∧ upG r i 65 (nI d2) = true then -7 else nI 0 := by
                unfold mvF
                rw [hinv, eKi, eKv, if_neg (fun z => z.2 (by rw [ce])), if_neg (fun z => cv (hE.mp z.2)), hwit]
              rw [eF]
              by_cases c : rNd r (20 * i) = 2 ∧ upG r i 65 (nI d2) = true
              · rw [if_pos c, if_neg (show ¬ (0 : Int32) ≤ -7 by decide), if_pos c]
                exact ⟨OpS.no (show ¬ (0 : Int32) ≤ -7 by decide) B, OpC.no (show ¬ (0 : Int32) ≤ -7 by decide)⟩
              · rw [if_neg c, if_pos (show (0 : Int32) ≤ nI 0 by decide), if_neg c]
                unfold mvD
                rw [if_neg p2]
                have nc := no_ch cv
                have hdv : d2 ≠ v := fun z => nc _ _ _ (by rw [← z]; rw [← z] at hPv; exact hPv)
                have hPv1 : PE (rNd (enR r d j 0 0)) (rNw (enR r d j 0 0)) d2 t w2 v := by rw [P1]; exact (up4_0 ..).mpr ⟨hPv, fun z => hne ⟨z.1.symm, z.2.symm⟩⟩
                have epl : plc L (dNow (mv1 L u (plc L (dNow u) d (4 * j)))) d2 (4 * t) = plc L (dNow u) d2 (4 * t) := pl_same hL0 hL S S1 W.1.1.1 hd2 rfl
                have ev : ino L (dNow (mv1 L u (plc L (dNow u) d (4 * j)))) (plc L (dNow u) d2 (4 * t)) = v := by
                  rw [← epl, R_in hL0 hL S1 W1.1 hd2 (show 4 * t + 4 ≤ 64 * bsR (rNd r) d2 by omega)]; exact hPv1.2.2.2.2.2
                rw [ev]
                obtain ⟨S2, C⟩ := fr_sim (i := v) hL0 hL S1 W1.1 hv (W1.2.1 v hv).2.1 (by have := W1.sz hL hv; omega)
                have nc1 : ∀ e w j', ¬ PE (rNd (enR r d j 0 0)) (rNw (enR r d j 0 0)) v e w j' := fun e w j' q => by
                  rw [P1] at q; exact nc _ _ _ ((up4_0 ..).mp q).1
                obtain ⟨P2, N2⟩ := fr_PE W1 C nc1
                have W2 := fr_WFk W1 C
                have k4 : rNd (frR (enR r d j 0 0) v) (20 * d2) = 2 := (C.2.1 _ (by omega)).trans k3
                have s4 : rNd (frR (enR r d j 0 0) v) (20 * d2 + 1) = rNd r (20 * d2 + 1) := C.2.1 _ (by omega)
                have hb4 := W2.bs hd2
                have epl2 : plc L (dNow u) d2 (4 * t) = plc L (dNow (rel L (mv1 L u (plc L (dNow u) d (4 * j))) v)) d2 (4 * t) := (pl_row hL0 hL S S2 W.1.1.1 W2.1.1 hd2 (fun q h1 h2 => C.2.1 q (by omega))).symm
                have S3 := stE_sim (e := t) (w := w2) (i := i) hL0 hL S2 W2.1 hd2 (by omega) hw3 (by omega) epl2
                obtain ⟨W3, P3, N3⟩ := en_char (e := t) (w := w2) (i := i) W2 hd2 k4 (by rw [s4]; exact ht) hw3 (by omega)
                have f3 := (f1.tr (fd_fr W1.1 hv)).tr (fd_en (L := L) (r := frR (enR r d j 0 0) v) (d := d2) (e := t) (w := w2) (i := i) hw3 (by omega))
                have B3 : rB (enR (frR (enR r d j 0 0) v) d2 t w2 i) := enR_B (fr_wf hv W1.1.1 B1).2 hw3 (by omega)
                refine ⟨⟨rfl, f3.1, B3, fun _ => ⟨S3, ⟨W3, N3 (N2 N1) (fun y => by omega), ?_⟩, f3.2.ch [v] (show 3 + 0 + 3 + 1 ≤ 22 by decide) (fun q _ hq => ?_)⟩⟩, fun _ => ⟨rfl, T_stE (T_rel (T_stE T0 _ _ _) v) _ _ _⟩, fun q => absurd (show (0 : Int32) ≤ nI 0 by decide) q⟩
                · refine tr_ext (fun a ha => ?_) (fun d' e' w' i' => ?_) (tr_mv2 T hPi hPv hne nc (nob c))
                  · show rNd (frR (enR r d j 0 0) v) (20 * a) = if a = v then 0 else rNd r (20 * a)
                    by_cases q : a = v
                    · rw [if_pos q, q]; exact C.2.2.1 _ (by omega) (by omega)
                    · rw [if_neg q]; exact C.2.1 _ (by omega)
                  · show PE (rNd (frR (enR r d j 0 0) v)) (rNw (enR (frR (enR r d j 0 0) v) d2 t w2 i)) d' e' w' i' ↔ _
                    rw [P3, P2, P1]
                · rw [List.mem_singleton]
                  exact Classical.byContradiction (fun y => hq (C.2.1 q (by omega)))
          · have eF : mvF L (dNow u) f i d2 (plc L (dNow u) d2 (4 * t)) = -5 := by
              unfold mvF
              rw [hinv, eKi, eKv, if_pos ⟨p2, fun z => ce (by omega)⟩]
            rw [eF, if_neg (show ¬ (0 : Int32) ≤ -5 by decide), if_neg ce]
            exact ⟨OpS.no (show ¬ (0 : Int32) ≤ -5 by decide) B, OpC.no (show ¬ (0 : Int32) ≤ -5 by decide)⟩
    · rw [if_neg kk, if_neg kk]; exact ⟨OpS.no kk B, OpC.no kk⟩
