/-! FRAMES: what an operation leaves; which blocks it changes. -/
def Fxk (r r' : RSt) : Prop := rTh r' = rTh r ∧ rCm r' = rCm r ∧ rTl r' = rTl r ∧ rTp r' = rTp r ∧ r'.2.2.2.2.2.2.2 = r.2.2.2.2.2.2.2 ∧ ((∀ q, rNw r q < 256) → ∀ q, rNw r' q < 256)
theorem Fxk.rf (r : RSt) : Fxk r r := ⟨rfl, rfl, rfl, rfl, rfl, fun h => h⟩
theorem Fxk.tr {r r1 r2 : RSt} (a : Fxk r r1) (b : Fxk r1 r2) : Fxk r r2 := ⟨b.1.trans a.1, b.2.1.trans a.2.1, b.2.2.1.trans a.2.2.1, b.2.2.2.1.trans a.2.2.2.1, b.2.2.2.2.1.trans a.2.2.2.2.1, fun h => b.2.2.2.2.2 (a.2.2.2.2.2 h)⟩
def Dkk (L : Nat) (r r' : RSt) (n : Nat) : Prop := ∃ S : List Nat, S.length ≤ n ∧ ∀ b, 59 ≤ b → b < L → rOw r' b ≠ 0 → (rOw r b = 0 ∨ ∃ c, c < 64 ∧ rNw r' (64 * b + c) ≠ rNw r (64 * b + c)) → b ∈ S
theorem Dkk.tr {L : Nat} {r r1 r2 : RSt} {n m : Nat} (a : Dkk L r r1 n) (b : Dkk L r1 r2 m) : Dkk L r r2 (n + m) := by
  obtain ⟨S, s1, s2⟩ := a
  obtain ⟨T, t1, t2⟩ := b
  refine ⟨S ++ T, by rw [List.length_append]; omega, fun b h1 h2 h3 h4 => ?_⟩
  rw [List.mem_append]
  by_cases z : rOw r1 b = 0
  · exact Or.inr (t2 b h1 h2 h3 (Or.inl z))
  · rcases h4 with h4 | ⟨c, h4, h5⟩
    · exact Or.inl (s2 b h1 h2 z (Or.inl h4))
    · by_cases q : rNw r2 (64 * b + c) = rNw r1 (64 * b + c)
      · exact Or.inl (s2 b h1 h2 z (Or.inr ⟨c, h4, by rw [← q]; exact h5⟩))
      · exact Or.inr (t2 b h1 h2 h3 (Or.inr ⟨c, h4, q⟩))
theorem Dkk.le {L : Nat} {r r' : RSt} {n m : Nat} (a : Dkk L r r' n) (h : n ≤ m) : Dkk L r r' m := by
  obtain ⟨S, s1, s2⟩ := a
  exact ⟨S, Nat.le_trans s1 h, s2⟩
theorem Dkk.same {L : Nat} {r r' : RSt} (h1 : ∀ b, rOw r' b ≠ 0 → rOw r b ≠ 0) (h2 : rNw r' = rNw r) : Dkk L r r' 0 :=
  ⟨[], Nat.le_refl _, fun b _ _ h h' => by rcases h' with z | ⟨c, _, z⟩; exact absurd z (h1 b h); exact absurd (by rw [h2]) z⟩
def Fdk (L : Nat) (r r' : RSt) (n : Nat) : Prop := Fxk r r' ∧ Dkk L r r' n
theorem Fdk.rf (L : Nat) (r : RSt) : Fdk L r r 0 := ⟨Fxk.rf r, Dkk.same (fun _ h => h) rfl⟩
theorem Fdk.tr {L : Nat} {r r1 r2 : RSt} {n m : Nat} (a : Fdk L r r1 n) (b : Fdk L r1 r2 m) : Fdk L r r2 (n + m) := ⟨a.1.tr b.1, a.2.tr b.2⟩
theorem Fdk.le {L : Nat} {r r' : RSt} {n m : Nat} (a : Fdk L r r' n) (h : n ≤ m) : Fdk L r r' m := ⟨a.1, a.2.le h⟩
theorem fd_pt (L : Nat) (r : RSt) (i c : Nat) {v : Nat} (hv : v < 256) : Fdk L r (ptR r i c v) 1 := by
  refine ⟨⟨rfl, rfl, rfl, rfl, rfl, fun h => pt_W h hv⟩, [bkR (rNd r) i (c / 64)], Nat.le_refl _, fun b h1 h2 h3 h4 => ?_⟩
  rcases h4 with z | ⟨c', h5, z⟩
  · exact absurd z h3
  · rw [List.mem_singleton]
    refine Classical.byContradiction (fun q => z ?_)
    exact va_up_ne _ _ (by omega)
theorem zrM_W {f : Nat → Nat} {b j : Nat} (h : ∀ q, f q < 256) (q : Nat) : zrM f b j q < 256 := by
  unfold zrM; split
  · decide
  · exact h q
theorem fd_tk {L : Nat} {r : RSt} {i : Nat} (W : WFb L (rNd r) (rOw r)) (hi : i < 64) : Fdk L r (tkR L r i).2 1 ∧ WFb L (rNd (tkR L r i).2) (rOw (tkR L r i).2) := by
  by_cases h : (tkR L r i).1 = true
  · obtain ⟨b, T⟩ := tk_char W hi h
    refine ⟨⟨?_, [b], Nat.le_refl _, fun b' h1 h2 h3 h4 => ?_⟩, tk_WFb W hi T⟩
    · by_cases hc : tkc L r i
      · rw [tkR_a hc]; exact ⟨rfl, rfl, rfl, rfl, rfl, fun h q => zrM_W h q⟩
      · by_cases h2 : foR L (rOw r) = L ∨ lX r i = 8
        · rw [tkR_n hc h2] at h; cases h
        · rw [tkR_l hc (fun z => h2 (Or.inl z)) (fun z => h2 (Or.inr z))]; exact ⟨rfl, rfl, rfl, rfl, rfl, fun h q => zrM_W h q⟩
    · obtain ⟨t1, t2, t3, t4, t5, t6, t7, t8, t9, t10⟩ := T
      rw [List.mem_singleton]
      refine Classical.byContradiction (fun q => ?_)
      rw [t4, va_up_ne _ _ q] at h3
      rcases h4 with z | ⟨c, h5, z⟩
      · exact h3 z
      · rw [t5] at z; unfold zrM at z; rw [if_neg (by omega)] at z; exact z rfl
  · rw [tk_same h]; exact ⟨(Fdk.rf L r).le (by decide), W⟩
theorem fd_gv {L : Nat} {r : RSt} {i : Nat} (W : WFb L (rNd r) (rOw r)) (hi : i < 64) (h1 : 1 ≤ lX r i) : Fdk L r (gvR r i) 0 ∧ WFb L (rNd (gvR r i)) (rOw (gvR r i)) := by
  have G := gv_char W.1 hi h1
  refine ⟨⟨?_, Dkk.same (fun b h => ?_) G.2.1⟩, gv_WFb W hi G⟩
  · unfold gvR; split
    · exact ⟨rfl, rfl, rfl, rfl, rfl, fun h => h⟩
    · exact ⟨rfl, rfl, rfl, rfl, rfl, fun h => h⟩
  · rw [G.1] at h; unfold va_up at h
    split at h
    · exact absurd rfl h
    · exact h
theorem fd_szT {L i : Nat} (hi : i < 64) : ∀ m r, WFb L (rNd r) (rOw r) → Fdk L r (szT L i m r).2 m ∧ WFb L (rNd (szT L i m r).2) (rOw (szT L i m r).2) := by
  intro m
  induction m with
  | zero => intro r W; exact ⟨Fdk.rf L r, W⟩
  | succ m ih =>
    intro r W
    obtain ⟨a1, a2⟩ := fd_tk W hi
    unfold szT
    by_cases z : (tkR L r i).1 = true
    · rw [if_pos z]
      obtain ⟨b1, b2⟩ := ih _ a2
      exact ⟨(a1.tr b1).le (by omega), b2⟩
    · rw [if_neg z]; exact ⟨a1.le (by omega), a2⟩
theorem fd_szG {L i : Nat} (hi : i < 64) : ∀ m r, WFb L (rNd r) (rOw r) → m ≤ bsR (rNd r) i → Fdk L r (szG i m r) 0 ∧ WFb L (rNd (szG i m r)) (rOw (szG i m r)) := by
  intro m
  induction m with
  | zero => intro r W _; exact ⟨Fdk.rf L r, W⟩
  | succ m ih =>
    intro r W hm
    have h1 : 1 ≤ lX r i := bs_0 (t := 0) (by omega)
    obtain ⟨a1, a2⟩ := fd_gv W hi h1
    have g := (gv_wf (L := L) hi W.1 h1).2.1
    unfold szG
    obtain ⟨b1, b2⟩ := ih _ a2 (by omega)
    exact ⟨a1.tr b1, b2⟩
/-- all puts lie in the blocks S -/
def Dsk (r r' : RSt) (S : List Nat) : Prop := Fxk r r' ∧ rOw r' = rOw r ∧ rNd r' = rNd r ∧ ∀ b c, c < 64 → rNw r' (64 * b + c) ≠ rNw r (64 * b + c) → b ∈ S
theorem Dsk.rf (r : RSt) (S : List Nat) : Dsk r r S := ⟨Fxk.rf r, rfl, rfl, fun _ _ _ h => absurd rfl h⟩
theorem Dsk.tr {r r1 r2 : RSt} {S : List Nat} (a : Dsk r r1 S) (b : Dsk r1 r2 S) : Dsk r r2 S := by
  refine ⟨a.1.tr b.1, b.2.1.trans a.2.1, b.2.2.1.trans a.2.2.1, fun x c hc h => ?_⟩
  by_cases q : rNw r2 (64 * x + c) = rNw r1 (64 * x + c)
  · exact a.2.2.2 x c hc (by rw [← q]; exact h)
  · exact b.2.2.2 x c hc q
theorem Dsk.fd {L : Nat} {r r' : RSt} {S : List Nat} (a : Dsk r r' S) : Fdk L r r' S.length :=
  ⟨a.1, S, Nat.le_refl _, fun b _ _ h3 h4 => by
    rcases h4 with z | ⟨c, h5, z⟩
    · rw [a.2.1] at h3; exact absurd z h3
    · exact a.2.2.2 b c h5 z⟩
theorem ds_pt {r : RSt} {i c v : Nat} {S : List Nat} (hv : v < 256) (hS : bkR (rNd r) i (c / 64) ∈ S) : Dsk r (ptR r i c v) S := by
  refine ⟨⟨rfl, rfl, rfl, rfl, rfl, fun h => pt_W h hv⟩, rfl, rfl, fun b c' h5 z => ?_⟩
  have : b = bkR (rNd r) i (c / 64) := Classical.byContradiction (fun q => z (va_up_ne _ _ (by omega)))
  rw [this]; exact hS
theorem ds_szZ {i : Nat} {S : List Nat} (nd : Nat → Nat) : ∀ m c r, rNd r = nd → (∀ c', c ≤ c' → c' < c + m → bkR nd i (c' / 64) ∈ S) → Dsk r (szZ i m c r) S := by
  intro m
  induction m with
  | zero => intro c r _ _; exact Dsk.rf r S
  | succ m ih =>
    intro c r hn h
    unfold szZ
    have p := ds_pt (r := r) (i := i) (c := c) (v := 0) (S := S) (by decide) (by rw [hn]; exact h c (Nat.le_refl _) (by omega))
    exact p.tr (ih (c + 1) _ (p.2.2.1.trans hn) (fun c' h1 h2 => h c' (by omega) (by omega)))
theorem ds_wp {i t : Nat} {S : List Nat} (nd tp : Nat → Nat) (ht : ∀ j, tp j < 256) : ∀ m j r, rNd r = nd → rTp r = tp → (∀ c', t + j ≤ c' → c' < t + j + m → bkR nd i (c' / 64) ∈ S) → Dsk r (wpG i t m j r) S := by
  intro m
  induction m with
  | zero => intro j r _ _ _; exact Dsk.rf r S
  | succ m ih =>
    intro j r hn hp h
    unfold wpG
    have p := ds_pt (r := r) (i := i) (c := t + j) (v := rTp r j) (S := S) (by rw [hp]; exact ht j) (by rw [hn]; exact h _ (Nat.le_refl _) (by omega))
    exact p.tr (ih (j + 1) _ (p.2.2.1.trans hn) (p.1.2.2.2.1.trans hp) (fun c' h1 h2 => h c' (by omega) (by omega)))
theorem fd_wp {L i t n : Nat} {r : RSt} (hn : n ≤ 512) (ht : ∀ j, rTp r j < 256) : Fdk L r (wpG i t n 0 r) 9 := by
  have h := ds_wp (i := i) (t := t) (S := (List.range 9).map (fun k => bkR (rNd r) i (t / 64 + k))) (rNd r) (rTp r) ht n 0 r rfl rfl (fun c' h1 h2 => by
    rw [List.mem_map]; exact ⟨c' / 64 - t / 64, by rw [List.mem_range]; omega, by congr 1; omega⟩)
  have := h.fd (L := L)
  rw [List.length_map, List.length_range] at this
  exact this
theorem fd_sz {L : Nat} {r : RSt} {i n : Nat} (W : WFb L (rNd r) (rOw r)) (hi : i < 64) : Fdk L r (szR L r i n).2 (ndz n - bsR (rNd r) i + 1) := by
  obtain ⟨a1, a2⟩ := fd_szT hi (ndz n - bsR (rNd r) i) r W
  obtain ⟨b1, b2⟩ := fd_szG (L := L) hi (bsR (rNd (sz1 L r i n).2) i - ndz n) (sz1 L r i n).2 a2 (by omega)
  have c1 : Fdk L (sz2 L r i n) (sz3 L r i n) 0 := ⟨⟨rfl, rfl, rfl, rfl, rfl, fun h => h⟩, Dkk.same (fun _ h => h) rfl⟩
  have d1 : Fdk L r (sz3 L r i n) (ndz n - bsR (rNd r) i) := (a1.tr b1).tr c1
  unfold szR
  by_cases z : (sz1 L r i n).1 = true
  · rw [if_pos z]
    have e1 := (ds_szZ (i := i) (S := [bkR (rNd (sz3 L r i n)) i (n / 64)]) (rNd (sz3 L r i n)) (64 * ndz n - n) n (sz3 L r i n) rfl (fun c' h1 h2 => by
      have h2 : c' < n + (64 * ((n + 63) / 64) - n) := h2
      rw [List.mem_singleton]; congr 1; omega)).fd (L := L)
    exact d1.tr e1
  · rw [if_neg z]; exact d1.le (by omega)
theorem fd_en {L : Nat} {r : RSt} {d e w i : Nat} (hw : w < 65536) (hi : i < 256) : Fdk L r (enR r d e w i) 3 :=
  ((fd_pt L r d (4 * e) (Nat.mod_lt _ (by decide))).tr (fd_pt L _ d (4 * e + 1) (Nat.div_lt_of_lt_mul (by omega)))).tr (fd_pt L _ d (4 * e + 2) hi)
theorem fd_ad {L : Nat} {r : RSt} {d w i : Nat} (W : WFb L (rNd r) (rOw r)) (hd : d < 64) (hb : bsR (rNd r) d = ndz (rNd r (20 * d + 1))) (hw : w < 65536) (hi : i < 256) : Fdk L r (adR L r d w i).2 5 := by
  have hb : bsR (rNd r) d = (rNd r (20 * d + 1) + 63) / 64 := hb
  have s := fd_sz (n := rNd r (20 * d + 1) + 64) W hd
  have s2 : Fdk L r (szR L r d (rNd r (20 * d + 1) + 64)).2 2 := s.le (by show (rNd r (20 * d + 1) + 64 + 63) / 64 - bsR (rNd r) d + 1 ≤ 2; omega)
  unfold adR; split
  · exact (fd_en hw hi).le (by decide)
  · split
    · exact s2.tr (fd_en hw hi)
    · exact s2.le (by decide)
theorem fd_fr {L : Nat} {r : RSt} {i : Nat} (W : WFb L (rNd r) (rOw r)) (hi : i < 64) : Fdk L r (frR r i) 0 := by
  obtain ⟨b1, b2⟩ := fd_szG (L := L) hi (bsR (rNd r) i) r W (Nat.le_refl _)
  rw [← fr_szG] at b1
  have c1 : Fdk L (fr1 r i) (frR r i) 0 := ⟨⟨rfl, rfl, rfl, rfl, rfl, fun h => h⟩, Dkk.same (fun _ h => h) rfl⟩
  exact Fdk.tr b1 c1
