/-! write, cut. -/
theorem sz_id {L : Nat} {r : RSt} {i : Nat} (W : WFk L (rNd r) (rOw r) (rNw r)) (hi : i < 64) : szR L r i (rNd r (20 * i + 1)) = (true, r) := by
  have hb := (W.2.1 i hi).2.1
  have e1 : sz1 L r i (rNd r (20 * i + 1)) = (true, r) := by unfold sz1; rw [hb, Nat.sub_self]; rfl
  have e2 : sz2 L r i (rNd r (20 * i + 1)) = r := by unfold sz2; rw [e1]; show szG i (bsR (rNd r) i - _) r = r; rw [hb, Nat.sub_self]; rfl
  have e3 : sz3 L r i (rNd r (20 * i + 1)) = r := by
    unfold sz3; rw [e2]
    have : va_up (rNd r) (20 * i + 1) (rNd r (20 * i + 1)) = rNd r := by
      funext q; unfold va_up; split
      · rename_i h; rw [h]
      · rfl
    rw [this]
  unfold szR
  rw [e1, e3, if_pos rfl, szZ_id]
  intro c h1 h2
  refine W.2.2.1 i hi c h1 ?_
  rw [hb]; omega
theorem wp_sim {L i t : Nat} (hL0 : 96 ≤ L) (hL : L ≤ 768) (hi : i < 64) (f : Nat → Int32) (tp : Nat → Nat) (hf : ∀ j, f j = nI (tp j)) (ht : ∀ j, tp j < 256) : ∀ m j u r, rTp r = tp → Sim L u r → WFb L (rNd r) (rOw r) → t + j + m ≤ 64 * bsR (rNd r) i →
    Sim L (wrG L i t f m j u) (wpG i t m j r) ∧ rNd (wpG i t m j r) = rNd r ∧ rOw (wpG i t m j r) = rOw r ∧ (∀ a, a < 64 → ∀ c, c < 64 * bsR (rNd r) a → (a ≠ i ∨ t + j + m ≤ c) → gt (rNd r) (rNw (wpG i t m j r)) a c = gt (rNd r) (rNw r) a c) := by
  intro m
  induction m with
  | zero => intro j u r _ S _ _; exact ⟨S, rfl, rfl, fun _ _ _ _ _ => rfl⟩
  | succ m ih =>
    intro j u r hp S W hb
    unfold wrG wpG
    have s1 := pt_sim (c := t + j) (v := tp j) hL0 hL S W hi (by omega) (ht j)
    rw [hp, hf j]
    obtain ⟨a1, a2, a3, a4⟩ := ih (j + 1) _ (ptR r i (t + j) (tp j)) hp s1 W (by show t + (j + 1) + m ≤ 64 * bsR (rNd r) i; omega)
    refine ⟨a1, a2, a3, fun a ha c hc h => ?_⟩
    refine (a4 a ha c hc (by omega)).trans ?_
    have p := pt_gt (nw := rNw r) (v := tp j) W hi (show t + j < 64 * bsR (rNd r) i by omega) ha hc
    exact p.trans (if_neg (by omega))
theorem wr_op {L : Nat} {u : DSt} {r : RSt} {i n : Nat} {x : Int32} {f : Nat → Int32} (hL0 : 96 ≤ L) (hL : L ≤ 768) (T0 : Tch L u u) (S : Sim L u r) (W : WFr L r) (B : rB r) (hi : i < 64) (hn : n ≤ 512) (hf : ∀ j, f j = nI (rTp r j)) (ht : ∀ j, rTp r j < 256) :
    OpS L r (wrC L u i x n f).1 (wrG L i x.toNatClampNeg f n 0 (rsz L u i (max (iS L (dNow u) i) (x.toNatClampNeg + n))).2) (wwR L r i x n) ∧ OpC L u (wrC L u i x n f).1 (wrC L u i x n f).2 (wrG L i x.toNatClampNeg f n 0 (rsz L u i (max (iS L (dNow u) i) (x.toNatClampNeg + n))).2) := by
  have hki := W.1.2.1 i hi
  have hs := W.1.sz hL hi
  have eS : iS L (dNow u) i = rNd r (20 * i + 1) := R_S S hL0 hL hi (by omega)
  unfold wrC wwR
  rw [R_kf hL0 hL S hi hki.1, eS]
  by_cases k : 0 ≤ bfR r i
  · rw [if_pos k, if_pos k]
    have hk := (bf_iff hki.1).mp k
    by_cases b : inR x (nI 0) (nI (rNd r (20 * i + 1))) = true
    · obtain ⟨t, h1, rfl⟩ := inR_of (by omega) b
      rw [if_pos b, if_neg (by rintro (q | q); exact nI_pos (by omega) q; exact nI_nlt (by omega) (by omega) q), nI_clamp (by omega)]
      unfold wrN wwN
      rw [eS]
      generalize hN : max (rNd r (20 * i + 1)) (t + n) = N
      have wz : wzR L r i t n = szR L r i N := by
        unfold wzR
        by_cases q : rNd r (20 * i + 1) < t + n
        · rw [if_pos q]; congr 1; omega
        · rw [if_neg q, show N = rNd r (20 * i + 1) by omega, sz_id W.1 hi]
      rw [wz]
      obtain ⟨z1, z2⟩ := sz_sim (n := N) hL0 hL S W.1.1 hi hki.2.1 (by omega) (by omega) (W.1.2.2.1 i hi)
      have fz := fd_sz (n := N) W.1.1 hi
      have Bz := (sz_wf (n := N) hi hL (by omega) W.1.1.1 B).2.1
      rw [z1]
      by_cases z : (szR L r i N).1 = true
      · rw [if_pos z, if_pos z]
        obtain ⟨S1, C⟩ := z2 z
        have W1 := sz_WFk W.1 hi C (fun q => by omega) (fun q => by omega)
        obtain ⟨p1, p2⟩ := sz_PEf W.1 C (by omega)
        have tpE : rTp (szR L r i N).2 = rTp r := fz.1.2.2.2.1
        have hb1 := W1.bs hi
        have s1 : rNd (szR L r i N).2 (20 * i + 1) = N := C.2.2.1
        obtain ⟨q1, q2, q3, q4⟩ := wp_sim (t := t) hL0 hL hi f (rTp r) hf ht n 0 _ (szR L r i N).2 tpE S1 W1.1 (by omega)
        have fw := fd_wp (L := L) (i := i) (t := t) (n := n) (r := (szR L r i N).2) hn (by rw [tpE]; exact ht)
        have ff := fz.tr fw
        have hkk : rNd (szR L r i N).2 (20 * i) = 1 := (C.2.1 _ (by omega)).trans hk
        have e1 : nI N = nI (rNd (wpG i t n 0 (szR L r i N).2) (20 * i + 1)) := by rw [q2, s1]
        refine ⟨⟨e1, ff.1, ?_, fun _ => ⟨q1, ?_, ?_⟩⟩, fun _ => ⟨rfl, T_wrG i t f n 0 _ (T_rsz T0 i N)⟩, fun q => absurd (nI_pos' (by omega)) q⟩
        · have : ∀ m j r, rB r → rB (wpG i t m j r) := by
            intro m
            induction m with
            | zero => intro j r h; exact h
            | succ m ih => intro j r h; unfold wpG; exact ih (j + 1) _ (ptR_B h (h j).1)
          exact this n 0 _ Bz
        · have hb2 : ∀ q, rNw (wpG i t n 0 (szR L r i N).2) q < 256 := ff.1.2.2.2.2.2 W.1.2.2.2
          have hss : ∀ d, d < 64 → rNd (szR L r i N).2 (20 * d) = rNd (szR L r i N).2 (20 * d) ∧ (rNd (szR L r i N).2 (20 * d) = 2 → rNd (szR L r i N).2 (20 * d + 1) = rNd (szR L r i N).2 (20 * d + 1) ∧ ∀ c, c < rNd (szR L r i N).2 (20 * d + 1) → gt (rNd (szR L r i N).2) (rNw (wpG i t n 0 (szR L r i N).2)) d c = gt (rNd (szR L r i N).2) (rNw (szR L r i N).2) d c) := fun d hd =>
            ⟨rfl, fun h => ⟨rfl, fun c hc => q4 d hd c (by have := W1.bs hd; omega) (Or.inl (fun z => by rw [z, hkk] at h; exact absurd h (by decide)))⟩⟩
          show WFt L (rNd (wpG i t n 0 (szR L r i N).2)) (rOw (wpG i t n 0 (szR L r i N).2)) (rNw (wpG i t n 0 (szR L r i N).2))
          rw [q2, q3]
          refine ⟨⟨W1.1, W1.2.1, fun a ha c h1 h2 => ?_, hb2⟩, NoE_eq hss (p2 W.2.1), tr_ext (K := KE (rNd r)) (fun a ha => C.2.1 _ (by omega)) (fun d e w j => by rw [PE_eq hss, p1]) W.2.2⟩
          have hy : a ≠ i ∨ t + 0 + n ≤ c := by
            by_cases y : a = i
            · right; rw [y, s1] at h1; omega
            · exact Or.inl y
          rw [q4 a ha c h2 hy]
          exact W1.2.2.1 a ha c h1 h2
        · refine ff.2.ch [i] ?_ (fun q _ hq => ?_)
          · have hb : bsR (rNd r) i = (rNd r (20 * i + 1) + 63) / 64 := hki.2.1
            show (N + 63) / 64 - bsR (rNd r) i + 1 + 9 + 1 ≤ 22
            omega
          · have hq : rNd (wpG i t n 0 (szR L r i N).2) q ≠ rNd r q := hq
            rw [q2] at hq
            rw [List.mem_singleton]
            exact Classical.byContradiction (fun y => hq (C.2.1 q (by omega)))
      · rw [if_neg z, if_neg z]
        exact ⟨⟨rfl, fz.1, Bz, fun q => absurd q (show ¬ (0 : Int32) ≤ -4 by decide)⟩, fun q => absurd q (show ¬ (0 : Int32) ≤ -4 by decide), fun _ => Or.inr ⟨_, T_rsz T0 _ _, rfl⟩⟩
    · have b' : x < 0 ∨ nI (rNd r (20 * i + 1)) < x := by
        refine Classical.byContradiction (fun q => b ?_)
        unfold inR
        rw [decide_eq_true_iff]
        exact ⟨Int32.not_lt.mp (fun z => q (Or.inl z)), Int32.not_lt.mp (fun z => q (Or.inr z))⟩
      rw [if_pos b', if_neg b]; exact ⟨OpS.no (show ¬ (0 : Int32) ≤ -8 by decide) B, OpC.no (show ¬ (0 : Int32) ≤ -8 by decide)⟩
  · rw [if_neg k, if_neg k]; exact ⟨OpS.no k B, OpC.no k⟩
theorem ct_op {L : Nat} {u : DSt} {r : RSt} {i : Nat} {x : Int32} (hL0 : 96 ≤ L) (hL : L ≤ 768) (T0 : Tch L u u) (S : Sim L u r) (W : WFr L r) (B : rB r) (hi : i < 64) :
    OpS L r (ctC L u i x).1 (rsz L u i x.toNatClampNeg).2 (ccR L r i x) ∧ OpC L u (ctC L u i x).1 (ctC L u i x).2 (rsz L u i x.toNatClampNeg).2 := by
  have hki := W.1.2.1 i hi
  have hs := W.1.sz hL hi
  have eS : iS L (dNow u) i = rNd r (20 * i + 1) := R_S S hL0 hL hi (by omega)
  unfold ctC ccR
  rw [R_kf hL0 hL S hi hki.1, eS]
  by_cases k : 0 ≤ bfR r i
  · rw [if_pos k, if_pos k]
    have hk := (bf_iff hki.1).mp k
    by_cases b : inR x (nI 0) (nI (rNd r (20 * i + 1) + 1024)) = true
    · obtain ⟨N, h1, rfl⟩ := inR_of (by omega) b
      rw [if_pos b, if_neg (by rintro (q | q); exact nI_pos (by omega) q; exact nI_nlt (by omega) (by omega) q), nI_clamp (by omega)]
      unfold ctN ccN
      obtain ⟨z1, z2⟩ := sz_sim (n := N) hL0 hL S W.1.1 hi hki.2.1 (by omega) (by omega) (W.1.2.2.1 i hi)
      have fz := fd_sz (n := N) W.1.1 hi
      have Bz := (sz_wf (n := N) hi hL (by omega) W.1.1.1 B).2.1
      rw [z1]
      by_cases z : (szR L r i N).1 = true
      · rw [if_pos z, if_pos z]
        obtain ⟨S1, C⟩ := z2 z
        have W1 := sz_WFk W.1 hi C (fun q => by omega) (fun q => by omega)
        obtain ⟨p1, p2⟩ := sz_PEf W.1 C (by omega)
        refine ⟨⟨rfl, fz.1, Bz, fun _ => ⟨S1, ⟨W1, p2 W.2.1, tr_ext (K := KE (rNd r)) (fun a ha => C.2.1 _ (by omega)) (fun d e w j => by rw [p1]) W.2.2⟩, ?_⟩⟩, fun _ => ⟨rfl, T_rsz T0 i N⟩, fun q => absurd (nI_pos' (by omega)) q⟩
        refine fz.2.ch [i] ?_ (fun q _ hq => ?_)
        · have hb : bsR (rNd r) i = (rNd r (20 * i + 1) + 63) / 64 := hki.2.1
          show (N + 63) / 64 - bsR (rNd r) i + 1 + 1 ≤ 22
          omega
        · rw [List.mem_singleton]
          exact Classical.byContradiction (fun y => hq (C.2.1 q (by omega)))
      · rw [if_neg z, if_neg z]
        exact ⟨⟨rfl, fz.1, Bz, fun q => absurd q (show ¬ (0 : Int32) ≤ -4 by decide)⟩, fun q => absurd q (show ¬ (0 : Int32) ≤ -4 by decide), fun _ => Or.inr ⟨_, T_rsz T0 _ _, rfl⟩⟩
    · have b' : x < 0 ∨ nI (rNd r (20 * i + 1) + 1024) < x := by
        refine Classical.byContradiction (fun q => b ?_)
        unfold inR
        rw [decide_eq_true_iff]
        exact ⟨Int32.not_lt.mp (fun z => q (Or.inl z)), Int32.not_lt.mp (fun z => q (Or.inr z))⟩
      rw [if_pos b', if_neg b]; exact ⟨OpS.no (show ¬ (0 : Int32) ≤ -8 by decide) B, OpC.no (show ¬ (0 : Int32) ≤ -8 by decide)⟩
  · rw [if_neg k, if_neg k]; exact ⟨OpS.no k B, OpC.no k⟩
