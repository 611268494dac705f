/-! ENTRIES WRITTEN, SIZES SET, INODES FREED AND BORN: on the bytes and on the tree. -/
theorem S_putw {L : Nat} {u : DSt} {h : Nat → Nat → Nat} {ow nw : Nat → Nat} {b c w : Nat} (S : SimH L (dNow u) (dCom u) h ow nw) (hb : 59 ≤ b) (ho : ow b ≠ 0) (hc : c < 64) (hw : w < 4294967296) :
    SimH L (dNow (stB u (64 * b + c) (nI w))) (dCom (stB u (64 * b + c) (nI w))) h ow (va_up nw (64 * b + c) (w % 256)) := by
  obtain ⟨s1, s2, s3, s4⟩ := S
  rw [stB_com]
  refine ⟨fun p hp => ?_, fun i hi k hk => ?_, fun n hn => ?_, fun b' hb' hL c' hc' => ?_⟩
  · rw [stB_byt, if_neg (by omega)]; exact s1 p hp
  · rw [stB_byt, if_neg (by omega)]; exact s2 i hi k hk
  · rw [stB_word _ _ _ (by omega)]; exact s3 n hn
  · rw [stB_byt, nI_tn hw]
    by_cases e : 64 * b' + c' = 64 * b + c
    · have e1 : b' = b := by omega
      rw [if_pos e, e1, if_neg ho, show 64 * b + c' = 64 * b + c by omega, va_up_self]
    · rw [if_neg e, s4 b' hb' hL c' hc', va_up_ne _ _ e]
section WR
variable {L : Nat} {u : DSt} {r : RSt}
theorem pt_simw {i c w : Nat} (hL0 : 96 ≤ L) (hL : L ≤ 768) (S : Sim L u r) (W : WFb L (rNd r) (rOw r)) (hi : i < 64) (hc : c < 64 * bsR (rNd r) i) (hw : w < 4294967296) {x : Int32} (hx : x = plc L (dNow u) i c) : Sim L (setB L u x (nI w)) (ptR r i c (w % 256)) := by
  have v := W.2.2.1 i hi (c / 64) (by omega)
  rw [hx, R_pl S hL0 hL hi W.1, if_pos hc, setB_in (by omega) hL]
  exact S_putw (b := bkR (rNd r) i (c / 64)) (ow := rOw r) (c := c % 64) S v.1 (by omega) (Nat.mod_lt _ (by decide)) hw
theorem pl_same {u' : DSt} {r' : RSt} {i c : Nat} (hL0 : 96 ≤ L) (hL : L ≤ 768) (S : Sim L u r) (S' : Sim L u' r') (W : wfN (rNd r) L) (hi : i < 64) (e : rNd r' = rNd r) : plc L (dNow u') i c = plc L (dNow u) i c := by
  rw [R_pl S hL0 hL hi W, R_pl S' hL0 hL hi (by rw [e]; exact W), e]
theorem stE_sim {d e w i : Nat} (hL0 : 96 ≤ L) (hL : L ≤ 768) (S : Sim L u r) (W : WFb L (rNd r) (rOw r)) (hd : d < 64) (hc : 4 * e + 4 ≤ 64 * bsR (rNd r) d) (hw : w < 65536) (hi : i < 256) {x : Int32} (hx : x = plc L (dNow u) d (4 * e)) : Sim L (stE L u x (nI w) (nI i)) (enR r d e w i) := by
  have s1 := pt_simw hL0 hL S W hd (show 4 * e < 64 * bsR (rNd r) d by omega) (show w < 4294967296 by omega) hx
  have s2 := pt_simw (w := w / 256) (r := ptR r d (4 * e) (w % 256)) hL0 hL s1 W hd (show 4 * e + 1 < 64 * bsR (rNd r) d by omega) (by omega) (x := x + nI 1) (by rw [hx, pl_add hL0 hL S W hd hc (by decide)]; rw [← hx]; exact (pl_same hL0 hL S s1 W.1 hd rfl).symm)
  have s3 := pt_simw (w := i) (r := ptR (ptR r d (4 * e) (w % 256)) d (4 * e + 1) (w / 256 % 256)) hL0 hL s2 W hd (show 4 * e + 2 < 64 * bsR (rNd r) d by omega) (by omega) (x := x + nI 2) (by rw [hx, pl_add hL0 hL S W hd hc (by decide)]; rw [← hx]; exact (pl_same hL0 hL S s2 W.1 hd rfl).symm)
  unfold stE setP
  rw [hi8 hw]
  rw [Nat.mod_eq_of_lt (show w / 256 < 256 by omega), Nat.mod_eq_of_lt hi] at s3
  exact s3
end WR
/-- an entry written -/
theorem en_gt {L : Nat} {r : RSt} {d e w i : Nat} (W : WFb L (rNd r) (rOw r)) (hd : d < 64) (hc : 4 * e + 4 ≤ 64 * bsR (rNd r) d) {a c : Nat} (ha : a < 64) (hc' : c < 64 * bsR (rNd r) a) :
    gt (rNd r) (rNw (enR r d e w i)) a c = if a = d ∧ c = 4 * e + 2 then i else if a = d ∧ c = 4 * e + 1 then w / 2 ^ 8 else if a = d ∧ c = 4 * e then w % 256 else gt (rNd r) (rNw r) a c := by
  show gt (rNd r) (va_up (va_up (va_up (rNw r) _ _) _ _) _ _) a c = _
  have p3 := fun nw v => pt_gt (nw := nw) (v := v) W hd (show 4 * e + 2 < 64 * bsR (rNd r) d by omega) ha hc'
  have p2 := fun nw v => pt_gt (nw := nw) (v := v) W hd (show 4 * e + 1 < 64 * bsR (rNd r) d by omega) ha hc'
  have p1 := fun nw v => pt_gt (nw := nw) (v := v) W hd (show 4 * e < 64 * bsR (rNd r) d by omega) ha hc'
  exact (p3 _ _).trans (by rw [← p1, ← p2]; rfl)
def upE4 (P : Nat → Nat → Nat → Nat → Prop) (d e w i : Nat) : Nat → Nat → Nat → Nat → Prop := fun d' e' w' i' => (d' = d ∧ e' = e ∧ w' = w ∧ i' = i ∧ 1 ≤ w) ∨ (P d' e' w' i' ∧ ¬ (d' = d ∧ e' = e))
theorem en_char {L : Nat} {r : RSt} {d e w i : Nat} (W : WFk L (rNd r) (rOw r) (rNw r)) (hd : d < 64) (hk : rNd r (20 * d) = 2) (he : e < rNd r (20 * d + 1) / 4) (hw : w < 65536) (hi : i < 256) :
    WFk L (rNd r) (rOw r) (rNw (enR r d e w i)) ∧ PE (rNd r) (rNw (enR r d e w i)) = upE4 (PE (rNd r) (rNw r)) d e w i ∧ (NoE (rNd r) (rNw r) → (w = 0 → i = 0) → NoE (rNd r) (rNw (enR r d e w i))) := by
  have hb := W.bs hd
  have hg : ∀ {a c : Nat}, a < 64 → c < 64 * bsR (rNd r) a → _ := fun {a c} ha hc => en_gt (r := r) (e := e) (w := w) (i := i) W.1 hd (by omega) ha hc
  have hnm : ∀ a e', a < 64 → 4 * e' + 4 ≤ 64 * bsR (rNd r) a → nmE (rNd r) (rNw (enR r d e w i)) a e' = (if a = d ∧ e' = e then w else nmE (rNd r) (rNw r) a e') ∧ inE (rNd r) (rNw (enR r d e w i)) a e' = if a = d ∧ e' = e then i else inE (rNd r) (rNw r) a e' := by
    intro a e' ha h4
    unfold nmE inE
    rw [hg ha (by omega), hg ha (by omega), hg ha (by omega)]
    by_cases q : a = d ∧ e' = e
    · obtain ⟨rfl, rfl⟩ := q
      rw [if_neg (by omega), if_neg (by omega), if_pos ⟨rfl, rfl⟩, if_neg (by omega), if_pos ⟨rfl, rfl⟩, if_pos ⟨rfl, rfl⟩, if_pos ⟨rfl, rfl⟩, if_pos ⟨rfl, rfl⟩]
      exact ⟨by omega, rfl⟩
    · rw [if_neg q, if_neg q]
      by_cases q1 : a = d
      · have q2 : e' ≠ e := fun z => q ⟨q1, z⟩
        rw [if_neg (by omega), if_neg (by omega), if_neg (by omega), if_neg (by omega), if_neg (by omega), if_neg (by omega), if_neg (by omega), if_neg (by omega), if_neg (by omega)]
        exact ⟨rfl, rfl⟩
      · have nq : ∀ z, ¬ (a = d ∧ z) := fun z y => q1 y.1
        rw [if_neg (nq _), if_neg (nq _), if_neg (nq _), if_neg (nq _), if_neg (nq _), if_neg (nq _), if_neg (nq _), if_neg (nq _), if_neg (nq _)]
        exact ⟨rfl, rfl⟩
  refine ⟨⟨W.1, W.2.1, fun a ha c h1 h2 => ?_, (ok_en (L := L) (r := r) ⟨W.1.1, fun i hi => W.bs hi, W.2.2.2⟩ hw hi).2.2⟩, ?_, fun N hwi a ha hka e' he' => ?_⟩
  · rw [hg ha h2]
    by_cases q : a = d
    · subst q; rw [if_neg (by omega), if_neg (by omega), if_neg (by omega)]; exact W.2.2.1 a ha c h1 h2
    · rw [if_neg (fun z => q z.1), if_neg (fun z => q z.1), if_neg (fun z => q z.1)]; exact W.2.2.1 a ha c h1 h2
  · funext a e' w' i'
    apply propext
    unfold upE4
    constructor
    · rintro ⟨h1, h2, h3, h4, h5, h6⟩
      have hb' := W.bs h1
      obtain ⟨n1, n2⟩ := hnm a e' h1 (by omega)
      rw [n1] at h4; rw [n2] at h6
      by_cases q : a = d ∧ e' = e
      · rw [if_pos q] at h4 h6; exact Or.inl ⟨q.1, q.2, h4.symm, h6.symm, by omega⟩
      · rw [if_neg q] at h4 h6; exact Or.inr ⟨⟨h1, h2, h3, h4, h5, h6⟩, q⟩
    · rintro (⟨rfl, rfl, rfl, rfl, h⟩ | ⟨⟨h1, h2, h3, h4, h5, h6⟩, q⟩)
      · obtain ⟨n1, n2⟩ := hnm a e' hd (by omega)
        rw [if_pos ⟨rfl, rfl⟩] at n1 n2
        exact ⟨hd, hk, he, n1, h, n2⟩
      · have hb' := W.bs h1
        obtain ⟨n1, n2⟩ := hnm a e' h1 (by omega)
        rw [if_neg q] at n1 n2
        exact ⟨h1, h2, h3, n1.trans h4, h5, n2.trans h6⟩
  · have hb' := W.bs ha
    obtain ⟨n1, n2⟩ := hnm a e' ha (by omega)
    rw [n1, n2]
    by_cases q : a = d ∧ e' = e
    · rw [if_pos q, if_pos q]; exact hwi
    · rw [if_neg q, if_neg q]; exact N a ha hka e' he'
/-- a size set: blocks -/
theorem sz_WFk {L : Nat} {r r' : RSt} {i n : Nat} (W : WFk L (rNd r) (rOw r) (rNw r)) (hi : i < 64) (C : SzC L r r' i n) (h0 : rNd r (20 * i) = 0 → n = 0) (h2 : rNd r (20 * i) = 2 → n % 64 = 0) : WFk L (rNd r') (rOw r') (rNw r') := by
  obtain ⟨c1, c2, c3, c4, c5, c6, c7⟩ := C
  have row : ∀ a, a ≠ i → ∀ q, 20 * a ≤ q → q < 20 * a + 20 → rNd r' q = rNd r q := fun a ha q h1 h2 => c2 q (by omega)
  have bsE : ∀ a, a < 64 → a ≠ i → bsR (rNd r') a = bsR (rNd r) a := fun a ha hne => bsR_row (row a hne) (c1.1 a ha).1
  refine ⟨c1, fun a ha => ?_, fun a ha c q1 q2 => ?_, c7 W.2.2.2⟩
  · by_cases e : a = i
    · subst e; rw [c3, c4, c2 (20 * a) (by omega)]; exact ⟨(W.2.1 a ha).1, rfl, h0, h2⟩
    · rw [bsE a ha e, row a e _ (by omega) (by omega), row a e _ (by omega) (by omega)]; exact W.2.1 a ha
  · by_cases e : a = i
    · subst e; rw [c3] at q1; rw [c4] at q2; rw [c5 c q2, if_neg (by omega)]
    · rw [row a e _ (by omega) (by omega)] at q1; rw [bsE a ha e] at q2
      rw [c6 a ha e c q2]; exact W.2.2.1 a ha c q1 q2
/-- a size set: the tree, of a file; of a directory that grows -/
theorem sz_PEf {L : Nat} {r r' : RSt} {i n : Nat} (W : WFk L (rNd r) (rOw r) (rNw r)) (C : SzC L r r' i n) (hk : rNd r (20 * i) ≠ 2) : PE (rNd r') (rNw r') = PE (rNd r) (rNw r) ∧ (NoE (rNd r) (rNw r) → NoE (rNd r') (rNw r')) := by
  obtain ⟨c1, c2, c3, c4, c5, c6, c7⟩ := C
  have hs : ∀ d, d < 64 → rNd r' (20 * d) = rNd r (20 * d) ∧ (rNd r (20 * d) = 2 → rNd r' (20 * d + 1) = rNd r (20 * d + 1) ∧ ∀ c, c < rNd r (20 * d + 1) → gt (rNd r') (rNw r') d c = gt (rNd r) (rNw r) d c) := fun d hd =>
    ⟨c2 _ (by omega), fun h => by
      have hne : d ≠ i := fun z => hk (by rw [← z]; exact h)
      exact ⟨c2 _ (by omega), fun c hc => c6 d hd hne c (by have := W.bs hd; omega)⟩⟩
  exact ⟨PE_eq hs, NoE_eq hs⟩
theorem sz_PEd {L : Nat} {r r' : RSt} {i n : Nat} (W : WFk L (rNd r) (rOw r) (rNw r)) (hi : i < 64) (C : SzC L r r' i n) (hk : rNd r (20 * i) = 2) (hn : rNd r (20 * i + 1) ≤ n) (hm : n % 64 = 0) : PE (rNd r') (rNw r') = PE (rNd r) (rNw r) ∧ (NoE (rNd r) (rNw r) → NoE (rNd r') (rNw r')) := by
  obtain ⟨c1, c2, c3, c4, c5, c6, c7⟩ := C
  have hm0 := (W.2.1 i hi).2.2.2 hk
  have hg : ∀ c, c < n → gt (rNd r') (rNw r') i c = if c < rNd r (20 * i + 1) then gt (rNd r) (rNw r) i c else 0 := fun c hc => by
    rw [c5 c (show c < 64 * ((n + 63) / 64) by omega)]
    by_cases q : c < rNd r (20 * i + 1)
    · rw [if_pos ⟨hc, q⟩, if_pos q]
    · rw [if_neg (fun z => q z.2), if_neg q]
  have ho : ∀ d, d < 64 → d ≠ i → rNd r' (20 * d) = rNd r (20 * d) ∧ rNd r' (20 * d + 1) = rNd r (20 * d + 1) ∧ ∀ c, c < rNd r (20 * d + 1) → gt (rNd r') (rNw r') d c = gt (rNd r) (rNw r) d c := fun d hd hne =>
    ⟨c2 _ (by omega), c2 _ (by omega), fun c hc => c6 d hd hne c (by have := W.bs hd; omega)⟩
  constructor
  · funext d e w j
    apply propext
    by_cases q : d = i
    · subst q
      constructor
      · rintro ⟨h1, h2, h3, h4, h5, h6⟩
        rw [c3] at h3
        unfold nmE at h4; unfold inE at h6
        rw [hg _ (by omega), hg _ (by omega)] at h4; rw [hg _ (by omega)] at h6
        by_cases z : e < rNd r (20 * d + 1) / 4
        · rw [if_pos (by omega), if_pos (by omega)] at h4; rw [if_pos (by omega)] at h6
          exact ⟨h1, hk, z, h4, h5, h6⟩
        · rw [if_neg (by omega), if_neg (by omega)] at h4; omega
      · rintro ⟨h1, h2, h3, h4, h5, h6⟩
        refine ⟨h1, by rw [c2 _ (by omega)]; exact hk, by rw [c3]; omega, ?_, h5, ?_⟩
        · unfold nmE; rw [hg _ (by omega), hg _ (by omega), if_pos (by omega), if_pos (by omega)]; exact h4
        · unfold inE; rw [hg _ (by omega), if_pos (by omega)]; exact h6
    · constructor
      · rintro ⟨h1, h2, h3, h4, h5, h6⟩
        obtain ⟨o1, o2, o3⟩ := ho d h1 q
        rw [o2] at h3
        unfold nmE at h4; unfold inE at h6
        rw [o3 _ (by omega), o3 _ (by omega)] at h4; rw [o3 _ (by omega)] at h6
        exact ⟨h1, o1 ▸ h2, h3, h4, h5, h6⟩
      · rintro ⟨h1, h2, h3, h4, h5, h6⟩
        obtain ⟨o1, o2, o3⟩ := ho d h1 q
        refine ⟨h1, o1.trans h2, by rw [o2]; exact h3, ?_, h5, ?_⟩
        · unfold nmE; rw [o3 _ (by omega), o3 _ (by omega)]; exact h4
        · unfold inE; rw [o3 _ (by omega)]; exact h6
  · intro N d hd hkd e he
    by_cases q : d = i
    · subst q
      rw [c3] at he
      unfold nmE inE
      rw [hg _ (by omega), hg _ (by omega), hg _ (by omega)]
      by_cases z : e < rNd r (20 * d + 1) / 4
      · rw [if_pos (by omega), if_pos (by omega), if_pos (by omega)]; exact N d hd hk e z
      · intro _; rw [if_neg (by omega)]
    · obtain ⟨o1, o2, o3⟩ := ho d hd q
      rw [o2] at he
      unfold nmE inE
      rw [o3 _ (by omega), o3 _ (by omega), o3 _ (by omega)]
      exact N d hd (o1 ▸ hkd) e he
/-- an inode freed -/
theorem fr_WFk {L : Nat} {r r' : RSt} {v : Nat} (W : WFk L (rNd r) (rOw r) (rNw r)) (C : FrC L r r' v) : WFk L (rNd r') (rOw r') (rNw r') := by
  obtain ⟨c1, c2, c3, c4, c5⟩ := C
  have row : ∀ a, a ≠ v → ∀ q, 20 * a ≤ q → q < 20 * a + 20 → rNd r' q = rNd r q := fun a ha q h1 h2 => c2 q (by omega)
  have bsE : ∀ a, a < 64 → a ≠ v → bsR (rNd r') a = bsR (rNd r) a := fun a ha hne => bsR_row (row a hne) (c1.1 a ha).1
  have b0 : bsR (rNd r') v = 0 := by unfold bsR; rw [c3 _ (by omega) (by omega)]; rfl
  refine ⟨c1, fun a ha => ?_, fun a ha c q1 q2 => ?_, by rw [c4]; exact W.2.2.2⟩
  · by_cases e : a = v
    · subst e; rw [b0, c3 _ (by omega) (by omega), c3 _ (by omega) (by omega)]; exact ⟨by decide, rfl, fun _ => rfl, fun _ => rfl⟩
    · rw [bsE a ha e, row a e _ (by omega) (by omega), row a e _ (by omega) (by omega)]; exact W.2.1 a ha
  · by_cases e : a = v
    · subst e; rw [b0] at q2; exact absurd q2 (Nat.not_lt_zero _)
    · rw [row a e _ (by omega) (by omega)] at q1; rw [bsE a ha e] at q2
      rw [c5 a ha e c q2]; exact W.2.2.1 a ha c q1 q2
theorem fr_PE {L : Nat} {r r' : RSt} {v : Nat} (W : WFk L (rNd r) (rOw r) (rNw r)) (C : FrC L r r' v) (hn : ∀ e w j, ¬ PE (rNd r) (rNw r) v e w j) : PE (rNd r') (rNw r') = PE (rNd r) (rNw r) ∧ (NoE (rNd r) (rNw r) → NoE (rNd r') (rNw r')) := by
  obtain ⟨c1, c2, c3, c4, c5⟩ := C
  have ho : ∀ d, d < 64 → d ≠ v → rNd r' (20 * d) = rNd r (20 * d) ∧ rNd r' (20 * d + 1) = rNd r (20 * d + 1) ∧ ∀ c, c < rNd r (20 * d + 1) → gt (rNd r') (rNw r') d c = gt (rNd r) (rNw r) d c := fun d hd hne =>
    ⟨c2 _ (by omega), c2 _ (by omega), fun c hc => c5 d hd hne c (by have := W.bs hd; omega)⟩
  constructor
  · funext d e w j
    apply propext
    constructor
    · rintro ⟨h1, h2, h3, h4, h5, h6⟩
      have q : d ≠ v := fun z => by rw [z, c3 _ (by omega) (by omega)] at h2; exact absurd h2 (by decide)
      obtain ⟨o1, o2, o3⟩ := ho d h1 q
      rw [o2] at h3
      unfold nmE at h4; unfold inE at h6
      rw [o3 _ (by omega), o3 _ (by omega)] at h4; rw [o3 _ (by omega)] at h6
      exact ⟨h1, o1 ▸ h2, h3, h4, h5, h6⟩
    · rintro ⟨h1, h2, h3, h4, h5, h6⟩
      have q : d ≠ v := fun z => by subst z; exact hn e w j ⟨h1, h2, h3, h4, h5, h6⟩
      obtain ⟨o1, o2, o3⟩ := ho d h1 q
      refine ⟨h1, o1.trans h2, by rw [o2]; exact h3, ?_, h5, ?_⟩
      · unfold nmE; rw [o3 _ (by omega), o3 _ (by omega)]; exact h4
      · unfold inE; rw [o3 _ (by omega)]; exact h6
  · intro N d hd hkd e he
    have q : d ≠ v := fun z => by rw [z, c3 _ (by omega) (by omega)] at hkd; exact absurd hkd (by decide)
    obtain ⟨o1, o2, o3⟩ := ho d hd q
    rw [o2] at he
    unfold nmE inE
    rw [o3 _ (by omega), o3 _ (by omega), o3 _ (by omega)]
    exact N d hd (o1 ▸ hkd) e he
/-- a free inode gets a kind -/
theorem bk_k (f : Nat → Nat) (i n a t : Nat) : bkR (va_up f (20 * i) n) a t = bkR f a t := by
  have : ∀ m e t, e + m ≤ 8 → bkG (va_up f (20 * i) n) a m e t = bkG f a m e t := by
    intro m
    induction m with
    | zero => intro _ _ _; rfl
    | succ m ih =>
      intro e t he
      unfold bkG
      rw [va_up_ne _ _ (by omega), va_up_ne _ _ (by omega), ih _ _ (by omega)]
  exact this 8 0 t (by decide)
theorem gt_k (f nw : Nat → Nat) (i n a c : Nat) : gt (va_up f (20 * i) n) nw a c = gt f nw a c := by unfold gt; rw [bk_k]
theorem mk_WFk {L : Nat} {r : RSt} {i c : Nat} (W : WFk L (rNd r) (rOw r) (rNw r)) (hi : i < 64) (hk : rNd r (20 * i) = 0) (hc : c ≤ 2) : WFk L (rNd (mk1 r i c)) (rOw r) (rNw r) := by
  have e1 : ∀ q, q ≠ 20 * i → rNd (mk1 r i c) q = rNd r q := fun q h => va_up_ne _ _ h
  have e0 : rNd (mk1 r i c) (20 * i) = c := va_up_self _ _ _
  have bsE : ∀ a, a < 64 → bsR (rNd (mk1 r i c)) a = bsR (rNd r) a := fun a ha => bs_up0 (W.1.1 a ha).1
  have bkE : ∀ a t, bkR (rNd (mk1 r i c)) a t = bkR (rNd r) a t := fun a t => bk_k _ _ _ _ _
  refine ⟨⟨wf_up0 W.1.1, W.1.2.1, fun a ha t ht => ?_, fun a ha t ht t' ht' e => ?_⟩, fun a ha => ?_, fun a ha q h1 h2 => ?_, W.2.2.2⟩
  · rw [bsE a ha] at ht; rw [bkE]; exact W.1.2.2.1 a ha t ht
  · rw [bsE a ha] at ht ht'; rw [bkE, bkE] at e; exact W.1.2.2.2 a ha t ht t' ht' e
  · have w := W.2.1 a ha
    rw [bsE a ha, e1 (20 * a + 1) (by omega)]
    by_cases z : a = i
    · subst z
      have s0 := w.2.2.1 hk
      rw [e0, s0]; rw [s0] at w; exact ⟨hc, w.2.1, fun _ => rfl, fun _ => rfl⟩
    · rw [e1 (20 * a) (by omega)]; exact w
  · rw [e1 _ (by omega)] at h1; rw [bsE a ha] at h2
    exact (gt_k _ _ _ _ _ _).trans (W.2.2.1 a ha q h1 h2)
theorem mk_PE {L : Nat} {r : RSt} {i c : Nat} (W : WFk L (rNd r) (rOw r) (rNw r)) (hi : i < 64) (hk : rNd r (20 * i) = 0) : PE (rNd (mk1 r i c)) (rNw r) = PE (rNd r) (rNw r) ∧ (NoE (rNd r) (rNw r) → NoE (rNd (mk1 r i c)) (rNw r)) := by
  have e1 : ∀ q, q ≠ 20 * i → rNd (mk1 r i c) q = rNd r q := fun q h => va_up_ne _ _ h
  have s0 := (W.2.1 i hi).2.2.1 hk
  have hg : ∀ a c', gt (rNd (mk1 r i c)) (rNw r) a c' = gt (rNd r) (rNw r) a c' := fun a c' => gt_k _ _ _ _ _ _
  constructor
  · funext d e w j
    apply propext
    constructor
    · rintro ⟨h1, h2, h3, h4, h5, h6⟩
      rw [e1 _ (by omega)] at h3
      have q : d ≠ i := fun z => by subst z; rw [s0] at h3; exact absurd h3 (by omega)
      rw [e1 _ (by omega)] at h2
      unfold nmE at h4; unfold inE at h6
      rw [hg, hg] at h4; rw [hg] at h6
      exact ⟨h1, h2, h3, h4, h5, h6⟩
    · rintro ⟨h1, h2, h3, h4, h5, h6⟩
      have q : d ≠ i := fun z => by subst z; rw [hk] at h2; exact absurd h2 (by decide)
      refine ⟨h1, by rw [e1 _ (by omega)]; exact h2, by rw [e1 _ (by omega)]; exact h3, ?_, h5, ?_⟩
      · unfold nmE; rw [hg, hg]; exact h4
      · unfold inE; rw [hg]; exact h6
  · intro N d hd hkd e he
    rw [e1 _ (by omega)] at he
    have q : d ≠ i := fun z => by subst z; rw [s0] at he; exact absurd he (by omega)
    rw [e1 _ (by omega)] at hkd
    unfold nmE inE
    rw [hg, hg, hg]
    exact N d hd hkd e he
