/-! THE OPERATIONS: class and reference do the same. -/
def ChB (L : Nat) (r r' : RSt) : Prop := ∃ S T : List Nat, S.length + T.length ≤ 22 ∧ (∀ b, 59 ≤ b → b < L → rOw r' b ≠ 0 → (rOw r b = 0 ∨ ∃ c, c < 64 ∧ rNw r' (64 * b + c) ≠ rNw r (64 * b + c)) → b ∈ S) ∧ ∀ q, q < 1280 → rNd r' q ≠ rNd r q → q / 20 ∈ T
theorem Dkk.ch {L : Nat} {r r' : RSt} {n : Nat} (a : Dkk L r r' n) (T : List Nat) (h : n + T.length ≤ 22) (hT : ∀ q, q < 1280 → rNd r' q ≠ rNd r q → q / 20 ∈ T) : ChB L r r' := by
  obtain ⟨S, s1, s2⟩ := a
  exact ⟨S, T, by omega, s2, hT⟩
abbrev WFr (L : Nat) (r : RSt) : Prop := WFt L (rNd r) (rOw r) (rNw r)
def OpS (L : Nat) (r : RSt) (A : Int32) (u2 : DSt) (res : Int32 × RSt) : Prop := A = res.1 ∧ Fxk r res.2 ∧ rB res.2 ∧ (0 ≤ A → Sim L u2 res.2 ∧ WFr L res.2 ∧ ChB L r res.2)
def OpC (L : Nat) (u : DSt) (A : Int32) (st u2 : DSt) : Prop := (0 ≤ A → st = stl L u2 ∧ Tch L u u2) ∧ (¬ 0 ≤ A → st = u ∨ ∃ u3, Tch L u u3 ∧ st = und L u3)
theorem OpC.no {L : Nat} {u u2 : DSt} {A : Int32} (h : ¬ 0 ≤ A) : OpC L u A u u2 := ⟨fun q => absurd q h, fun _ => Or.inl rfl⟩
theorem OpS.no {L : Nat} {r : RSt} {u2 : DSt} {A : Int32} (h : ¬ 0 ≤ A) (B : rB r) : OpS L r A u2 (A, r) := ⟨rfl, Fxk.rf r, B, fun q => absurd q h⟩
theorem bl_leaf {P : Nat → Nat → Nat → Nat → Prop} {i : Nat} (h : ∀ e w j, ¬ P i e w j) : ∀ n x, BlN P i n x → x = i := by
  intro n
  induction n with
  | zero => intro x h; exact h
  | succ n ih =>
    rintro x ⟨d, e, w, h1, h2⟩
    have := ih d h2; subst this; exact absurd h1 (h _ _ _)
theorem bl_mono {P Q : Nat → Nat → Nat → Nat → Prop} {i : Nat} (h : ∀ d e w j, P d e w j → Q d e w j) : ∀ n x, BlN P i n x → BlN Q i n x := by
  intro n
  induction n with
  | zero => intro x h; exact h
  | succ n ih => rintro x ⟨d, e, w, h1, h2⟩; exact ⟨d, e, w, h _ _ _ _ h1, ih d h2⟩
theorem rB_ad {L : Nat} {r : RSt} {d w i : Nat} (hL : L ≤ 768) (B : rB r) (w1 : wfN (rNd r) L) (hd : d < 64) (hs : rNd r (20 * d + 1) < 65000) (hw : w < 65536) (hi : i < 65536) : rB (adR L r d w i).2 := by
  have z := (sz_wf (n := rNd r (20 * d + 1) + 64) hd hL (by omega) w1 B).2.1
  unfold adR; split
  · exact enR_B B hw hi
  · split
    · exact enR_B z hw hi
    · exact z
/-- the kind byte -/
theorem mk_sim {L : Nat} {u : DSt} {r : RSt} {i c : Nat} (hL0 : 96 ≤ L) (hL : L ≤ 768) (S : Sim L u r) (w1 : wfN (rNd r) L) (hi : i < 64) (hc : c < 256) : Sim L (setB L u (nI (1600 + 32 * i)) (nI c)) (mk1 r i c) := by
  have s := S_byte (k := 0) (v := c) hL0 hL S hi (by decide) hc
  refine SimH.h_eq s (fun a ha k hk => ?_)
  have hX := (w1 a ha).1
  have e1 : ∀ q, q ≠ 20 * i → rNd (mk1 r i c) q = rNd r q := fun q h => va_up_ne _ _ h
  have e0 : rNd (mk1 r i c) (20 * i) = c := va_up_self _ _ _
  unfold up2
  by_cases z : a = i ∧ k = 0
  · obtain ⟨rfl, rfl⟩ := z; rw [if_pos ⟨rfl, rfl⟩, nb_0, e0]
  · rw [if_neg z]
    revert z
    refine nb_k hk (fun k => ¬ (a = i ∧ k = 0) → nbR (rNd r) a k = nbR (rNd (mk1 r i c)) a k) ?_ ?_ ?_ ?_ ?_ ?_ ?_
    · intro z; rw [nb_0, nb_0, e1 _ (by omega)]
    · intro _; rw [nb_1, nb_1, e1 _ (by omega)]
    · intro _; rw [nb_2, nb_2, e1 _ (by omega)]
    · intro _; rw [nb_3, nb_3, e1 _ (by omega)]
    · intro e _ _
      rw [nb_f, nb_f, e1 (20 * a + 2) (by omega)]
      by_cases q : e < rNd r (20 * a + 2)
      · rw [if_pos q, if_pos q, e1 _ (by omega)]
      · rw [if_neg q, if_neg q]
    · intro e _ _
      rw [nb_g, nb_g, e1 (20 * a + 2) (by omega)]
      by_cases q : e < rNd r (20 * a + 2)
      · rw [if_pos q, if_pos q, e1 _ (by omega)]
      · rw [if_neg q, if_neg q]
    · intro e _ _
      rw [nb_l, nb_l, e1 (20 * a + 2) (by omega)]
      by_cases q : e < rNd r (20 * a + 2)
      · rw [if_pos q, if_pos q, e1 _ (by omega)]
      · rw [if_neg q, if_neg q]
theorem mk_op {L : Nat} {u : DSt} {r : RSt} {d w c : Nat} (hL0 : 96 ≤ L) (hL : L ≤ 768) (T0 : Tch L u u) (S : Sim L u r) (W : WFr L r) (B : rB r) (hd : d < 64) (hw1 : 1 ≤ w) (hw : w < 65536) (hc1 : 1 ≤ c) (hc : c ≤ 2) :
    OpS L r (mkC L u d w c).1 (setB L (adE L u d (nI w) (ilf L (dNow u))).2 (nI (1600 + 32 * (ilf L (dNow u)).toNatClampNeg)) (nI c)) (mkR L r d w c) ∧ OpC L u (mkC L u d w c).1 (mkC L u d w c).2 (setB L (adE L u d (nI w) (ilf L (dNow u))).2 (nI (1600 + 32 * (ilf L (dNow u)).toNatClampNeg)) (nI c)) := by
  have hkd := W.1.2.1 d hd
  have hs := W.1.sz hL hd
  generalize hU : setB L (adE L u d (nI w) (ilf L (dNow u))).2 (nI (1600 + 32 * (ilf L (dNow u)).toNatClampNeg)) (nI c) = u2
  unfold mkC mkR
  rw [R_kd hL0 hL S hd hkd.1, hU]
  by_cases k : 0 ≤ bdR r d
  · rw [if_pos k, if_pos k]
    have hk := (bd_iff hkd.1).mp k
    rcases R_ent hL0 hL S W.1 hd hk w with ⟨h1, h2, h3⟩ | ⟨j, h1, h2, h3, h4⟩
    · rw [if_pos h2, h1, if_pos (show (-1 : Int32) < 0 by decide)]
      rw [R_ilf hL0 hL S] at hU ⊢
      by_cases f : fkR (rNd r) = 64
      · rw [if_pos f, if_pos rfl, if_pos f]; exact ⟨OpS.no (show ¬ (0 : Int32) ≤ -3 by decide) B, OpC.no (show ¬ (0 : Int32) ≤ -3 by decide)⟩
      · obtain ⟨-, i64, ik⟩ := fk_of (f := rNd r) 64 0 rfl f
        generalize hi : fkR (rNd r) = i at *
        have hi : fkG (rNd r) 64 0 = i := hi
        rw [hi] at i64 ik
        have ine : ¬ nI i = -1 := fun q => absurd (nI_pos' (n := i) (by omega)) (by rw [q]; decide)
        rw [if_neg f] at hU ⊢
        rw [if_neg ine, if_neg f]
        have i1 : 1 ≤ i := by
          rcases Nat.eq_zero_or_pos i with z | z
          · have := W.2.2.1; rw [z] at ik; exact absurd (ik.symm.trans this) (by decide)
          · exact z
        have hdi : d ≠ i := fun z => by rw [z, ik] at hk; exact absurd hk (by decide)
        have Wm := mk_WFk (c := c) W.1 i64 ik hc
        have Bm : rB (mk1 r i c) := rB_nd B (by omega)
        have fxm : Fdk L r (mk1 r i c) 0 := ⟨⟨rfl, rfl, rfl, rfl, rfl, fun h => h⟩, Dkk.same (fun _ h => h) rfl⟩
        have sm : rNd (mk1 r i c) (20 * d + 1) = rNd r (20 * d + 1) := mk_at r (by omega)
        have fa := fxm.tr (fd_ad (w := w) (i := i) (r := mk1 r i c) Wm.1 hd (Wm.2.1 d hd).2.1 hw (by omega))
        have Ba := rB_ad (i := i) hL Bm Wm.1.1 hd (by omega) hw (by omega)
        obtain ⟨a1, a2⟩ := ad_sim (i := i) hL0 hL S W.1 hd hk hw1 hw (by omega)
        obtain ⟨m1, m2⟩ := mk_ad (i := i) (c := c) (w := w) (j := i) hd W.1.1 hkd.2.1
        rw [a1, m1]
        by_cases z : (adR L r d w i).1 = true
        · rw [if_pos z, if_pos z]
          refine ⟨⟨rfl, fa.1, Ba, fun _ => ?_⟩, fun _ => ⟨rfl, ?_⟩, fun q => absurd (nI_pos' (by omega)) q⟩
          · obtain ⟨S1, C⟩ := a2 z
            obtain ⟨c1, c2, e, c3, c4, c5⟩ := C
            have ik1 : rNd (adR L r d w i).2 (20 * i) = 0 := (c2 _ (by omega)).trans ik
            have Wf := mk_WFk (c := c) c1 i64 ik1 hc
            obtain ⟨p1, p2⟩ := mk_PE (c := c) c1 i64 ik1
            show Sim L u2 (adR L (mk1 r i c) d w i).2 ∧ WFr L (adR L (mk1 r i c) d w i).2 ∧ ChB L r (adR L (mk1 r i c) d w i).2
            have fa2 := fa.2
            rw [m2 z] at fa2 ⊢
            refine ⟨?_, ⟨Wf, p2 (c5 W.2.1), ?_⟩, fa2.ch [d, i] (show 0 + 5 + 2 ≤ 22 by decide) (fun q _ hq => ?_)⟩
            · rw [← hU, nI_clamp (by omega)]; exact mk_sim hL0 hL S1 c1.1.1 i64 (by omega)
            · have t1 := tr_born (c := c) W.2.2 i1 ik
              have nob : ∀ e w j, ¬ PE (rNd r) (rNw r) i e w j := fun e w j q => by have := q.2.1; omega
              have t2 := tr_att (d := d) (e := e) (w := w) t1 i1 i64 (by show (if i = i then c else KE (rNd r) i) ≠ 0; rw [if_pos rfl]; omega) hd (by show (if d = i then c else KE (rNd r) d) = 2; rw [if_neg hdi]; exact hk) hw1 (fun n q => hdi (bl_leaf nob n d q)) c3 (fun e' j q => h3 e' q.2.2.1 q.2.2.2.1)
              refine tr_ext (fun a ha => ?_) (fun d' e' w' i' => ?_) t2
              · show va_up (rNd (adR L r d w i).2) (20 * i) c (20 * a) = if a = i then c else rNd r (20 * a)
                by_cases q : a = i
                · rw [q, va_up_self, if_pos rfl]
                · rw [va_up_ne _ _ (by omega), if_neg q]; exact c2 _ (by omega)
              · show PE (rNd (mk1 (adR L r d w i).2 i c)) (rNw (adR L r d w i).2) d' e' w' i' ↔ _
                rw [p1, c4]; unfold upE4
                constructor
                · rintro (⟨q1, q2, q3, q4, q5⟩ | ⟨q, _⟩)
                  · exact Or.inl ⟨q1, q2, q3, q4⟩
                  · exact Or.inr q
                · rintro (⟨q1, q2, q3, q4⟩ | q)
                  · exact Or.inl ⟨q1, q2, q3, q4, hw1⟩
                  · refine Or.inr ⟨q, fun ⟨z1, z2⟩ => ?_⟩
                    subst z1; subst z2; exact c3 _ _ q
            · have hq : va_up (rNd (adR L r d w i).2) (20 * i) c q ≠ rNd r q := hq
              by_cases q1 : q / 20 = i
              · rw [q1]; exact List.mem_cons_of_mem _ (List.mem_singleton.mpr rfl)
              · by_cases q2 : q / 20 = d
                · rw [q2]; exact List.mem_cons_self ..
                · rw [va_up_ne _ _ (by omega), c2 q (by omega)] at hq; exact absurd rfl hq
          · rw [← hU]; exact T_setB (T_adE T0 _ _ _) _ _
        · rw [if_neg z, if_neg z]
          exact ⟨⟨rfl, fa.1, Ba, fun q => absurd q (show ¬ (0 : Int32) ≤ -4 by decide)⟩, fun q => absurd q (show ¬ (0 : Int32) ≤ -4 by decide), fun _ => Or.inr ⟨_, T_adE T0 _ _ _, rfl⟩⟩
    · have pne : ¬ ent L (dNow u) d w = -1 := by
        rw [h3, R_pl S hL0 hL hd W.1.1.1, if_pos (by have := W.1.bs hd; omega)]
        have := W.1.1.2.2.1 d hd (4 * j / 64) (by have := W.1.bs hd; omega)
        intro q
        exact absurd (nI_pos' (n := 64 * bkR (rNd r) d (4 * j / 64) + 4 * j % 64) (by omega)) (by rw [q]; decide)
      rw [if_neg pne, h2, if_neg (nI_pos (by omega))]
      exact ⟨OpS.no (show ¬ (0 : Int32) ≤ -2 by decide) B, OpC.no (show ¬ (0 : Int32) ≤ -2 by decide)⟩
  · rw [if_neg k, if_neg k]; exact ⟨OpS.no k B, OpC.no k⟩
