/-! THE REFERENCE's OPERATIONS. -/
/-- what a well state is, for the walks -/
def okR (L : Nat) (r : RSt) : Prop := wfN (rNd r) L ∧ (∀ i, i < 64 → rNd r (20 * i + 1) ≤ 64 * bsR (rNd r) i) ∧ ∀ q, rNw r q < 256
theorem eoG_of (r : RSt) (d w : Nat) : ∀ n e, 0 ≤ eoG r d w n e → ∃ j, e ≤ j ∧ j < e + n ∧ eoG r d w n e = nI j ∧ nmR r d j = w := by
  intro n
  induction n with
  | zero => intro e h; exact absurd (show (0 : Int32) ≤ -1 from h) (by decide)
  | succ n ih =>
    intro e h
    by_cases hk : nmR r d e = w
    · exact ⟨e, Nat.le_refl _, by omega, by rw [eoG, if_pos hk], hk⟩
    · rw [eoG, if_neg hk] at h ⊢
      obtain ⟨j, h1, h2, h3⟩ := ih (e + 1) h
      exact ⟨j, by omega, by omega, h3⟩
theorem eoR_of {r : RSt} {d w : Nat} (h : 0 ≤ eoR r d w) : ∃ j, j < rNd r (20 * d + 1) / 4 ∧ eoR r d w = nI j ∧ nmR r d j = w := by
  obtain ⟨j, -, h2, h3⟩ := eoG_of r d w _ 0 h
  exact ⟨j, by omega, h3⟩
theorem eoG_no (r : RSt) (d w : Nat) : ∀ n e, e + n < 2147483648 → ¬ 0 ≤ eoG r d w n e → eoG r d w n e = -1 := by
  intro n
  induction n with
  | zero => intro e _ _; rfl
  | succ n ih =>
    intro e hb h
    by_cases hk : nmR r d e = w
    · rw [eoG, if_pos hk] at h; exact absurd (nI_pos' (by omega)) h
    · rw [eoG, if_neg hk] at h ⊢; exact ih (e + 1) (by omega) h
theorem szT_wf {L i : Nat} (hi : i < 64) (hL : L ≤ 768) : ∀ m r, wfN (rNd r) L → rB r → wfN (rNd (szT L i m r).2) L ∧ rB (szT L i m r).2 ∧ ((szT L i m r).1 = true → bsR (rNd (szT L i m r).2) i = bsR (rNd r) i + m) := by
  intro m
  induction m with
  | zero => intro r h hb; exact ⟨h, hb, fun _ => rfl⟩
  | succ m ih =>
    intro r h hb
    have t1 := tk_wf hi h
    have t2 := tk_B hi hL hb h
    unfold szT
    by_cases z : (tkR L r i).1 = true
    · rw [if_pos z]
      obtain ⟨a1, a2, a3⟩ := ih _ t1.1 t2
      exact ⟨a1, a2, fun q => by rw [a3 q, t1.2 z]; omega⟩
    · rw [if_neg z]; exact ⟨t1.1, t2, fun q => by cases q⟩
theorem szG_wf {L i : Nat} (hi : i < 64) : ∀ m r, wfN (rNd r) L → rB r → m ≤ bsR (rNd r) i → wfN (rNd (szG i m r)) L ∧ rB (szG i m r) ∧ bsR (rNd (szG i m r)) i + m = bsR (rNd r) i := by
  intro m
  induction m with
  | zero => intro r h hb _; exact ⟨h, hb, rfl⟩
  | succ m ih =>
    intro r h hb hm
    have h1 : 1 ≤ lX r i := bs_0 (t := 0) (by omega)
    have g1 := gv_wf hi h h1
    unfold szG
    obtain ⟨a1, a2, a3⟩ := ih (gvR r i) g1.1 (gv_B hb) (by omega)
    exact ⟨a1, a2, by omega⟩
theorem szZ_nd (i : Nat) : ∀ m c r, rNd (szZ i m c r) = rNd r ∧ (rB r → rB (szZ i m c r)) := by
  intro m
  induction m with
  | zero => intro c r; exact ⟨rfl, fun h => h⟩
  | succ m ih => intro c r; unfold szZ; exact ⟨(ih (c + 1) _).1, fun h => (ih (c + 1) _).2 (ptR_B h (by decide))⟩
theorem sz_wf {L : Nat} {r : RSt} {i n : Nat} (hi : i < 64) (hL : L ≤ 768) (hn : n < 65536) (h : wfN (rNd r) L) (hb : rB r) : wfN (rNd (szR L r i n).2) L ∧ rB (szR L r i n).2 ∧ ((szR L r i n).1 = true → bsR (rNd (szR L r i n).2) i = ndz n) ∧ rNd (szR L r i n).2 (20 * i + 1) = n := by
  obtain ⟨a1, a2, a3⟩ := szT_wf hi hL (ndz n - bsR (rNd r) i) r h hb
  obtain ⟨b1, b2, b3⟩ := szG_wf hi (bsR (rNd (sz1 L r i n).2) i - ndz n) (sz1 L r i n).2 a1 a2 (by omega)
  have c1 : wfN (rNd (sz3 L r i n)) L := wf_up1 b1
  have c2 : rB (sz3 L r i n) := rB_nd b2 hn
  have c3 : bsR (rNd (sz3 L r i n)) i = bsR (rNd (sz2 L r i n)) i := bs_up1
  have c4 : rNd (sz3 L r i n) (20 * i + 1) = n := va_up_self _ _ _
  unfold szR
  by_cases z : (sz1 L r i n).1 = true
  · rw [if_pos z]
    have d := szZ_nd i (64 * ndz n - n) n (sz3 L r i n)
    refine ⟨by rw [d.1]; exact c1, d.2 c2, fun _ => ?_, by rw [d.1]; exact c4⟩
    show bsR (rNd (szZ i (64 * ndz n - n) n (sz3 L r i n))) i = ndz n
    rw [d.1, c3]
    have e1 : bsR (rNd (sz1 L r i n).2) i = bsR (rNd r) i + (ndz n - bsR (rNd r) i) := a3 z
    have e2 : bsR (rNd (sz2 L r i n)) i + (bsR (rNd (sz1 L r i n).2) i - ndz n) = bsR (rNd (sz1 L r i n).2) i := b3
    omega
  · rw [if_neg z]
    exact ⟨c1, c2, fun q => absurd q z, c4⟩
/-- adds -/
def adR (L : Nat) (r : RSt) (d w i : Nat) : Bool × RSt :=
  if 0 ≤ eoR r d 0 then (true, enR r d (eoR r d 0).toNatClampNeg w i)
  else if (szR L r d (rNd r (20 * d + 1) + 64)).1 = true then (true, enR (szR L r d (rNd r (20 * d + 1) + 64)).2 d (rNd r (20 * d + 1) / 4) w i)
  else (false, (szR L r d (rNd r (20 * d + 1) + 64)).2)
/-- makes -/
def fkG (f : Nat → Nat) : Nat → Nat → Nat
  | 0, i => i
  | n + 1, i => if 0 < f (20 * i) then fkG f n (i + 1) else i
def fkR (f : Nat → Nat) : Nat := fkG f 64 0
def mk1 (r : RSt) (i c : Nat) : RSt := qNd r (va_up (rNd r) (20 * i) c)
theorem wf_up0 {f : Nat → Nat} {L i n : Nat} (h : wfN f L) : wfN (va_up f (20 * i) n) L := by
  intro a ha
  have hw := h a ha
  have h8 := hw.1
  rw [va_up_ne _ _ (by omega)]
  refine ⟨h8, fun j hj => ?_⟩
  rw [va_up_ne _ _ (by omega), va_up_ne _ _ (by omega)]
  exact hw.2 j hj
theorem bs_up0 {f : Nat → Nat} {i n a : Nat} (h8 : f (20 * a + 2) ≤ 8) : bsR (va_up f (20 * i) n) a = bsR f a := by
  unfold bsR; rw [va_up_ne _ _ (by omega), bs_up _ (fun j hj => by omega)]
theorem ok_up0 {L : Nat} {r : RSt} {i c : Nat} (h : okR L r) : okR L (mk1 r i c) := by
  refine ⟨wf_up0 h.1, fun a ha => ?_, h.2.2⟩
  show va_up (rNd r) (20 * i) c (20 * a + 1) ≤ 64 * bsR (va_up (rNd r) (20 * i) c) a
  rw [va_up_ne _ _ (by omega), bs_up0 (h.1 a ha).1]; exact h.2.1 a ha
def mkR (L : Nat) (r : RSt) (d w c : Nat) : Int32 × RSt :=
  if 0 ≤ bdR r d then
    if eoR r d w < 0 then
      if fkR (rNd r) = 64 then (-3, r)
      else if (adR L (mk1 r (fkR (rNd r)) c) d w (fkR (rNd r))).1 = true then (nI (fkR (rNd r)), (adR L (mk1 r (fkR (rNd r)) c) d w (fkR (rNd r))).2)
      else (-4, (adR L (mk1 r (fkR (rNd r)) c) d w (fkR (rNd r))).2)
    else (-2, r)
  else (bdR r d, r)
/-- writes, of an offset t in bounds -/
def wpG (i t : Nat) : Nat → Nat → RSt → RSt
  | 0, _, r => r
  | m + 1, j, r => wpG i t m (j + 1) (ptR r i (t + j) (rTp r j))
def wzR (L : Nat) (r : RSt) (i t n : Nat) : Bool × RSt := if rNd r (20 * i + 1) < t + n then szR L r i (t + n) else (true, r)
def wwN (L : Nat) (r : RSt) (i t n : Nat) : Int32 × RSt :=
  if (wzR L r i t n).1 = true then (nI (rNd (wpG i t n 0 (wzR L r i t n).2) (20 * i + 1)), wpG i t n 0 (wzR L r i t n).2) else (-4, (wzR L r i t n).2)
def wwR (L : Nat) (r : RSt) (i : Nat) (x : Int32) (n : Nat) : Int32 × RSt :=
  if 0 ≤ bfR r i then
    if inR x (nI 0) (nI (rNd r (20 * i + 1))) = true then wwN L r i x.toNatClampNeg n else (-8, r)
  else (bfR r i, r)
/-- cuts -/
def ccN (L : Nat) (r : RSt) (i n : Nat) : Int32 × RSt := (if (szR L r i n).1 = true then nI n else -4, (szR L r i n).2)
def ccR (L : Nat) (r : RSt) (i : Nat) (x : Int32) : Int32 × RSt :=
  if 0 ≤ bfR r i then
    if inR x (nI 0) (nI (rNd r (20 * i + 1) + 1024)) = true then ccN L r i x.toNatClampNeg else (-8, r)
  else (bfR r i, r)
/-- removes -/
def rrR (r : RSt) (d w : Nat) : Int32 × RSt :=
  if 0 ≤ bdR r d then
    if 0 ≤ eoR r d w then
      if rNd r (20 * iaR r d (eoR r d w).toNatClampNeg) = 2 ∧ ieR r (iaR r d (eoR r d w).toNatClampNeg) = false then (-6, r)
      else (nI 0, enR (frR r (iaR r d (eoR r d w).toNatClampNeg)) d (eoR r d w).toNatClampNeg 0 0)
    else (-1, r)
  else (bdR r d, r)
theorem frG_wf {L i : Nat} (hi : i < 64) : ∀ m r, wfN (rNd r) L → rB r → m ≤ bsR (rNd r) i → wfN (rNd (frG i m r)) L ∧ rB (frG i m r) ∧ bsR (rNd (frG i m r)) i + m = bsR (rNd r) i := by
  intro m
  induction m with
  | zero => intro r h hb _; exact ⟨h, hb, rfl⟩
  | succ m ih =>
    intro r h hb hm
    have h1 : 1 ≤ lX r i := bs_0 (t := 0) (by omega)
    have g1 := gv_wf hi h h1
    unfold frG
    obtain ⟨a1, a2, a3⟩ := ih (gvR r i) g1.1 (gv_B hb) (by omega)
    exact ⟨a1, a2, by omega⟩
theorem zn_wf {f : Nat → Nat} {L i : Nat} (h : wfN f L) : wfN (znM f (20 * i) 20) L := by
  intro a ha
  by_cases e : a = i
  · subst e
    have z : ∀ q, 20 * a ≤ q → q < 20 * a + 20 → znM f (20 * a) 20 q = 0 := fun q h1 h2 => by unfold znM; rw [if_pos ⟨h1, h2⟩]
    rw [z _ (by omega) (by omega)]
    exact ⟨by omega, fun j hj => absurd hj (by omega)⟩
  · have hw := h a ha
    have h8 := hw.1
    have z : ∀ q, 20 * a ≤ q → q < 20 * a + 20 → znM f (20 * i) 20 q = f q := fun q h1 h2 => by unfold znM; rw [if_neg (by omega)]
    rw [z _ (by omega) (by omega)]
    refine ⟨h8, fun j hj => ?_⟩
    rw [z _ (by omega) (by omega), z _ (by omega) (by omega)]
    exact hw.2 j hj
theorem fr_wf {L : Nat} {r : RSt} {i : Nat} (hi : i < 64) (h : wfN (rNd r) L) (hb : rB r) : wfN (rNd (frR r i)) L ∧ rB (frR r i) := by
  obtain ⟨a1, a2, -⟩ := frG_wf hi (bsR (rNd r) i) r h hb (Nat.le_refl _)
  refine ⟨zn_wf a1, ?_⟩
  intro q
  have b := a2 q
  refine ⟨b.1, ?_, b.2.2⟩
  show znM (rNd (fr1 r i)) (20 * i) 20 q < 65536
  unfold znM; split
  · decide
  · exact b.2.1
theorem enR_B {r : RSt} {d e w i : Nat} (h : rB r) (hw : w < 65536) (hi : i < 65536) : rB (enR r d e w i) := ptR_B (ptR_B (ptR_B h (Nat.lt_of_lt_of_le (Nat.mod_lt _ (by decide)) (by decide))) (Nat.lt_of_le_of_lt (Nat.div_le_self _ _) hw)) hi
theorem inR_of {x : Int32} {b : Nat} (hb : b < 2147483648) (h : inR x (nI 0) (nI b) = true) : ∃ t, t ≤ b ∧ x = nI t := by
  unfold inR at h
  have h1 := of_decide_eq_true h
  rw [nI_0] at h1
  obtain ⟨j, hj, e⟩ := nI_of (x := x) (fun z => Int32.not_lt.mpr h1.1 z)
  subst e
  exact ⟨j, (nI_leI hj hb).mp h1.2, rfl⟩
theorem gv_ne {r : RSt} {i a q : Nat} (ha : a ≠ i) (h8 : lX r i ≤ 8) (h1 : 20 * a ≤ q) (h2 : q < 20 * a + 20) : rNd (gvR r i) q = rNd r q := by
  have e1 : rNd (gvW r i) q = rNd r q := va_up_ne _ _ (by omega)
  unfold gvR; split
  · exact e1
  · show va_up (va_up (rNd (gvW r i)) (20 * i + 3 + 2 * (lX r i - 1)) 0) (20 * i + 2) _ q = rNd r q
    rw [va_up_ne _ _ (by omega), va_up_ne _ _ (by omega)]; exact e1
theorem frG_ne {L i a : Nat} (hi : i < 64) (ha : a ≠ i) : ∀ m r, wfN (rNd r) L → rB r → m ≤ bsR (rNd r) i → ∀ q, 20 * a ≤ q → q < 20 * a + 20 → rNd (frG i m r) q = rNd r q := by
  intro m
  induction m with
  | zero => intro r _ _ _ q _ _; rfl
  | succ m ih =>
    intro r h hb hm q h1 h2
    have hx1 : 1 ≤ lX r i := bs_0 (t := 0) (by omega)
    have g1 := gv_wf hi h hx1
    unfold frG
    rw [ih (gvR r i) g1.1 (gv_B hb) (by omega) q h1 h2, gv_ne ha (h i hi).1 h1 h2]
theorem fr_ne {L : Nat} {r : RSt} {i a q : Nat} (hi : i < 64) (ha : a ≠ i) (h : wfN (rNd r) L) (hb : rB r) (h1 : 20 * a ≤ q) (h2 : q < 20 * a + 20) : rNd (frR r i) q = rNd r q := by
  show znM (rNd (fr1 r i)) (20 * i) 20 q = rNd r q
  unfold znM; rw [if_neg (by omega)]
  exact frG_ne hi ha _ r h hb (Nat.le_refl _) q h1 h2
theorem bs_eq {f h : Nat → Nat} {a : Nat} : ∀ e, e ≤ 8 → (∀ q, 20 * a ≤ q → q < 20 * a + 20 → f q = h q) → bs f a e = bs h a e := by
  intro e
  induction e with
  | zero => intro _ _; rfl
  | succ e ih => intro h8 hq; unfold bs; rw [ih (by omega) hq, hq _ (by omega) (by omega)]
theorem fr_bs {L : Nat} {r : RSt} {i a : Nat} (hi : i < 64) (haL : a < 64) (ha : a ≠ i) (h : wfN (rNd r) L) (hb : rB r) : bsR (rNd (frR r i)) a = bsR (rNd r) a := by
  unfold bsR
  rw [fr_ne hi ha h hb (by omega) (by omega)]
  exact bs_eq _ (h a haL).1 (fun q h1 h2 => fr_ne hi ha h hb h1 h2)
/-- parentOf -/
def pnG (r : RSt) (i d : Nat) : Nat → Nat → Bool
  | 0, _ => false
  | n + 1, e => if 0 < nmR r d e ∧ iaR r d e = i then true else pnG r i d n (e + 1)
def pnR (r : RSt) (i d : Nat) : Bool := pnG r i d (rNd r (20 * d + 1) / 4) 0
def paG (r : RSt) (i : Nat) : Nat → Nat → Int32
  | 0, _ => -1
  | n + 1, d => if rNd r (20 * d) = 2 ∧ pnR r i d = true then nI d else paG r i n (d + 1)
def paR (r : RSt) (i : Nat) : Int32 := if 0 < i then paG r i 64 0 else -1
theorem paG_of (r : RSt) (i : Nat) : ∀ n d, 0 ≤ paG r i n d → ∃ j, d ≤ j ∧ j < d + n ∧ paG r i n d = nI j := by
  intro n
  induction n with
  | zero => intro d h; exact absurd (show (0 : Int32) ≤ -1 from h) (by decide)
  | succ n ih =>
    intro d h
    by_cases hk : rNd r (20 * d) = 2 ∧ pnR r i d = true
    · exact ⟨d, Nat.le_refl _, by omega, by rw [paG, if_pos hk]⟩
    · rw [paG, if_neg hk] at h ⊢
      obtain ⟨j, h1, h2, h3⟩ := ih (d + 1) h
      exact ⟨j, by omega, by omega, h3⟩
theorem paR_of {r : RSt} {i : Nat} (h : ¬ paR r i < 0) : ∃ j, j < 64 ∧ paR r i = nI j := by
  have h0 : 0 ≤ paR r i := Int32.not_lt.mp h
  unfold paR at h0 ⊢
  by_cases hi : 0 < i
  · rw [if_pos hi] at h0 ⊢
    obtain ⟨j, -, h2, h3⟩ := paG_of r i 64 0 h0
    exact ⟨j, by omega, h3⟩
  · rw [if_neg hi] at h0; exact absurd h0 (by decide)
