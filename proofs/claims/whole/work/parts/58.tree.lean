/-! THE TREE: counts, abstract trees, what a well state is. -/
theorem php : ∀ m n (f : Nat → Nat), (∀ t, t < n → f t < m) → (∀ s t, s < n → t < n → f s = f t → s = t) → n ≤ m := by
  intro m
  induction m with
  | zero =>
    intro n f h _
    rcases Nat.eq_zero_or_pos n with z | z
    · omega
    · exact absurd (h 0 z) (Nat.not_lt_zero _)
  | succ m ih =>
    intro n f h hi
    rcases n with _ | k
    · omega
    · refine Nat.succ_le_succ (ih k (fun t => if f t = m then f k else f t) (fun t ht => ?_) (fun s t hs ht e => ?_))
      · have h1 := h t (by omega); have h2 := h k (by omega)
        show (if f t = m then f k else f t) < m
        by_cases c : f t = m
        · rw [if_pos c]
          have : f k ≠ m := fun q => absurd (hi t k (by omega) (by omega) (by omega)) (by omega)
          omega
        · rw [if_neg c]; omega
      · have e : (if f s = m then f k else f s) = (if f t = m then f k else f t) := e
        by_cases c : f s = m
        · by_cases c2 : f t = m
          · exact hi s t (by omega) (by omega) (by omega)
          · rw [if_pos c, if_neg c2] at e; exact absurd (hi k t (by omega) (by omega) e) (by omega)
        · by_cases c2 : f t = m
          · rw [if_neg c, if_pos c2] at e; exact absurd (hi s k (by omega) (by omega) e) (by omega)
          · rw [if_neg c, if_neg c2] at e; exact hi s t (by omega) (by omega) e
theorem bs_max {L : Nat} {nd ow : Nat → Nat} {i : Nat} (W : WFb L nd ow) (hi : i < 64) : bsR nd i ≤ L - 59 := by
  refine php (L - 59) (bsR nd i) (fun t => bkR nd i t - 59) (fun t ht => ?_) (fun s t hs ht e => ?_)
  · have := W.2.2.1 i hi t ht
    show bkR nd i t - 59 < L - 59
    omega
  · have h1 := W.2.2.1 i hi t ht; have h2 := W.2.2.1 i hi s hs
    have e : bkR nd i s - 59 = bkR nd i t - 59 := e
    exact W.2.2.2 i hi s hs t ht (by omega)
/-- ranks below 64 -/
def cnR (f : Nat → Nat) (v : Nat) : Nat → Nat
  | 0 => 0
  | n + 1 => cnR f v n + (if f n < v then 1 else 0)
theorem cn_mono (f : Nat → Nat) {v w : Nat} (h : v ≤ w) : ∀ n, cnR f v n ≤ cnR f w n := by
  intro n
  induction n with
  | zero => exact Nat.le_refl _
  | succ n ih =>
    unfold cnR
    by_cases c : f n < v
    · rw [if_pos c, if_pos (by omega)]; omega
    · rw [if_neg c]; omega
theorem cn_lt (f : Nat → Nat) {v w x : Nat} (h : f x < w) (hv : v ≤ f x) : ∀ n, x < n → cnR f v n < cnR f w n := by
  intro n
  induction n with
  | zero => intro h; exact absurd h (Nat.not_lt_zero _)
  | succ n ih =>
    intro hx
    have hm := cn_mono f (show v ≤ w by omega) n
    unfold cnR
    by_cases e : x = n
    · subst e; rw [if_pos h, if_neg (by omega)]; omega
    · have := ih (by omega)
      by_cases c : f n < v
      · rw [if_pos c, if_pos (by omega)]; omega
      · rw [if_neg c]; omega
theorem cn_le (f : Nat → Nat) (v : Nat) : ∀ n, cnR f v n ≤ n := by
  intro n
  induction n with
  | zero => exact Nat.le_refl _
  | succ n ih => unfold cnR; split <;> omega
theorem cn_lo (f : Nat → Nat) {x : Nat} : ∀ n, x < n → cnR f (f x) n < n := by
  intro n
  induction n with
  | zero => intro h; exact absurd h (Nat.not_lt_zero _)
  | succ n ih =>
    intro hx
    have := cn_le f (f x) n
    unfold cnR
    by_cases e : x = n
    · subst e; rw [if_neg (by omega)]; omega
    · have := ih (by omega); split <;> omega
/-- a tree: kinds K, entries P (directory, place, name, inode); the inode o has no entry -/
def TrD (K : Nat → Nat) (P : Nat → Nat → Nat → Nat → Prop) (o : Nat) : Prop :=
  K 0 = 2 ∧ (∀ d e w i, P d e w i → d < 64 ∧ K d = 2 ∧ 1 ≤ w ∧ 1 ≤ i ∧ i < 64 ∧ K i ≠ 0 ∧ i ≠ o) ∧ (∀ d e w d' e' w' i, P d e w i → P d' e' w' i → d = d' ∧ e = e') ∧ (∀ d e e' w i i', P d e w i → P d e' w i' → e = e') ∧
  (∀ d e w i w' i', P d e w i → P d e w' i' → w = w' ∧ i = i') ∧ (∀ i, 1 ≤ i → i < 64 → K i ≠ 0 → i ≠ o → ∃ d e w, P d e w i) ∧ ∃ ρ : Nat → Nat, ∀ d e w i, P d e w i → ρ d < ρ i
/-- x lies n levels below o -/
def BlN (P : Nat → Nat → Nat → Nat → Prop) (o : Nat) : Nat → Nat → Prop
  | 0, x => x = o
  | n + 1, x => ∃ d e w, P d e w x ∧ BlN P o n d
theorem tr_ext {K K' : Nat → Nat} {P P' : Nat → Nat → Nat → Nat → Prop} {o : Nat} (hK : ∀ i, i < 64 → K' i = K i) (hP : ∀ d e w i, P' d e w i ↔ P d e w i) (T : TrD K P o) : TrD K' P' o := by
  have e : P' = P := by funext d e w i; exact propext (hP d e w i)
  subst e
  obtain ⟨t1, t2, t3, t4, tF, t5, t6⟩ := T
  refine ⟨(hK 0 (by decide)).trans t1, fun d e w i h => ?_, t3, t4, tF, fun i h1 h2 h3 h4 => t5 i h1 h2 (by rw [← hK i h2]; exact h3) h4, t6⟩
  have := t2 d e w i h
  rw [hK d this.1, hK i this.2.2.2.2.1]; exact this
/-- an entry is taken away: its inode has none -/
theorem tr_det {K : Nat → Nat} {P : Nat → Nat → Nat → Nat → Prop} {d e w i : Nat} (T : TrD K P 0) (h : P d e w i) : TrD K (fun d' e' w' i' => P d' e' w' i' ∧ ¬ (d' = d ∧ e' = e)) i := by
  obtain ⟨t1, t2, t3, t4, tF, t5, ρ, t6⟩ := T
  refine ⟨t1, fun d' e' w' i' h' => ?_, fun _ _ _ _ _ _ _ h1 h2 => t3 _ _ _ _ _ _ _ h1.1 h2.1, fun _ _ _ _ _ _ h1 h2 => t4 _ _ _ _ _ _ h1.1 h2.1, fun _ _ _ _ _ _ h1 h2 => tF _ _ _ _ _ _ h1.1 h2.1, fun i' h1 h2 h3 h4 => ?_, ρ, fun _ _ _ _ h1 => t6 _ _ _ _ h1.1⟩
  · have := t2 _ _ _ _ h'.1
    refine ⟨this.1, this.2.1, this.2.2.1, this.2.2.2.1, this.2.2.2.2.1, this.2.2.2.2.2.1, fun q => ?_⟩
    subst q; exact h'.2 (t3 _ _ _ _ _ _ _ h'.1 h)
  · obtain ⟨d', e', w', h'⟩ := t5 i' h1 h2 h3 (by omega)
    refine ⟨d', e', w', h', fun q => h4 ?_⟩
    obtain ⟨rfl, rfl⟩ := q
    exact (tF _ _ _ _ _ _ h' h).2
/-- an inode with no entry and no entries in it is freed -/
theorem tr_free {K : Nat → Nat} {P : Nat → Nat → Nat → Nat → Prop} {i : Nat} (T : TrD K P i) (h1 : 1 ≤ i) (h : ∀ e w j, ¬ P i e w j) : TrD (fun j => if j = i then 0 else K j) P 0 := by
  obtain ⟨t1, t2, t3, t4, tF, t5, t6⟩ := T
  refine ⟨by show (if 0 = i then 0 else K 0) = 2; rw [if_neg (by omega)]; exact t1, fun d e w j h' => ?_, t3, t4, tF, fun j h1 h2 h3 _ => ?_, t6⟩
  · have := t2 _ _ _ _ h'
    have n1 : d ≠ i := fun q => by subst q; exact h _ _ _ h'
    show d < 64 ∧ (if d = i then 0 else K d) = 2 ∧ 1 ≤ w ∧ 1 ≤ j ∧ j < 64 ∧ (if j = i then 0 else K j) ≠ 0 ∧ j ≠ 0
    rw [if_neg n1, if_neg this.2.2.2.2.2.2]
    exact ⟨this.1, this.2.1, this.2.2.1, this.2.2.2.1, this.2.2.2.2.1, this.2.2.2.2.2.1, by omega⟩
  · have h3 : (if j = i then 0 else K j) ≠ 0 := h3
    by_cases q : j = i
    · rw [if_pos q] at h3; exact absurd rfl h3
    · rw [if_neg q] at h3; exact t5 j h1 h2 h3 q
/-- a free inode gets a kind -/
theorem tr_born {K : Nat → Nat} {P : Nat → Nat → Nat → Nat → Prop} {i c : Nat} (T : TrD K P 0) (h1 : 1 ≤ i) (h : K i = 0) : TrD (fun j => if j = i then c else K j) P i := by
  obtain ⟨t1, t2, t3, t4, tF, t5, t6⟩ := T
  refine ⟨by show (if 0 = i then c else K 0) = 2; rw [if_neg (by omega)]; exact t1, fun d e w j h' => ?_, t3, t4, tF, fun j h1 h2 h3 h4 => ?_, t6⟩
  · have := t2 _ _ _ _ h'
    have n1 : d ≠ i := fun q => by have := this.2.1; rw [q, h] at this; omega
    have n2 : j ≠ i := fun q => this.2.2.2.2.2.1 (by rw [q]; exact h)
    show d < 64 ∧ (if d = i then c else K d) = 2 ∧ 1 ≤ w ∧ 1 ≤ j ∧ j < 64 ∧ (if j = i then c else K j) ≠ 0 ∧ j ≠ i
    rw [if_neg n1, if_neg n2]
    exact ⟨this.1, this.2.1, this.2.2.1, this.2.2.2.1, this.2.2.2.2.1, this.2.2.2.2.2.1, n2⟩
  · have h3 : (if j = i then c else K j) ≠ 0 := h3
    rw [if_neg h4] at h3; exact t5 j h1 h2 h3 (by omega)
/-- an inode with no entry gets one -/
theorem tr_att {K : Nat → Nat} {P : Nat → Nat → Nat → Nat → Prop} {i d e w : Nat} (T : TrD K P i) (h1 : 1 ≤ i) (h2 : i < 64) (hk : K i ≠ 0) (hd : d < 64) (hkd : K d = 2) (hw : 1 ≤ w) (hb : ∀ n, ¬ BlN P i n d) (hf : ∀ w' j, ¬ P d e w' j) (hn : ∀ e' j, ¬ P d e' w j) :
    TrD K (fun d' e' w' i' => (d' = d ∧ e' = e ∧ w' = w ∧ i' = i) ∨ P d' e' w' i') 0 := by
  obtain ⟨t1, t2, t3, t4, tF, t5, ρ, t6⟩ := T
  refine ⟨t1, fun d' e' w' i' h' => ?_, fun d1 e1 w1 d2 e2 w2 j p1 p2 => ?_, fun d1 e1 e2 w1 j1 j2 p1 p2 => ?_, fun d1 e1 w1 j1 w2 j2 p1 p2 => ?_, fun j h1 h2 h3 _ => ?_, ?_⟩
  · rcases h' with ⟨rfl, rfl, rfl, rfl⟩ | h'
    · exact ⟨hd, hkd, hw, h1, h2, hk, by omega⟩
    · have := t2 _ _ _ _ h'
      exact ⟨this.1, this.2.1, this.2.2.1, this.2.2.2.1, this.2.2.2.2.1, this.2.2.2.2.2.1, by omega⟩
  · rcases p1 with ⟨rfl, rfl, rfl, rfl⟩ | p1
    · rcases p2 with ⟨rfl, rfl, rfl, _⟩ | p2
      · exact ⟨rfl, rfl⟩
      · exact absurd rfl (t2 _ _ _ _ p2).2.2.2.2.2.2
    · rcases p2 with ⟨rfl, rfl, rfl, rfl⟩ | p2
      · exact absurd rfl (t2 _ _ _ _ p1).2.2.2.2.2.2
      · exact t3 _ _ _ _ _ _ _ p1 p2
  · rcases p1 with ⟨rfl, rfl, rfl, rfl⟩ | p1
    · rcases p2 with ⟨_, rfl, _, _⟩ | p2
      · rfl
      · exact absurd p2 (hn _ _)
    · rcases p2 with ⟨rfl, rfl, rfl, rfl⟩ | p2
      · exact absurd p1 (hn _ _)
      · exact t4 _ _ _ _ _ _ p1 p2
  · rcases p1 with ⟨rfl, rfl, rfl, rfl⟩ | p1
    · rcases p2 with ⟨_, _, rfl, rfl⟩ | p2
      · exact ⟨rfl, rfl⟩
      · exact absurd p2 (hf _ _)
    · rcases p2 with ⟨rfl, rfl, rfl, rfl⟩ | p2
      · exact absurd p1 (hf _ _)
      · exact tF _ _ _ _ _ _ p1 p2
  · by_cases q : j = i
    · exact ⟨d, e, w, Or.inl ⟨rfl, rfl, rfl, q⟩⟩
    · obtain ⟨d', e', w', h'⟩ := t5 j h1 h2 h3 q
      exact ⟨d', e', w', Or.inr h'⟩
  · classical
    refine ⟨fun x => if ∃ n, BlN P i n x then ρ x + (ρ d + 1) else ρ x, fun d' e' w' j h' => ?_⟩
    show (if ∃ n, BlN P i n d' then ρ d' + (ρ d + 1) else ρ d') < (if ∃ n, BlN P i n j then ρ j + (ρ d + 1) else ρ j)
    rcases h' with ⟨rfl, rfl, rfl, rfl⟩ | h'
    · rw [if_neg (fun ⟨n, z⟩ => hb n z), if_pos ⟨0, rfl⟩]; omega
    · have r := t6 _ _ _ _ h'
      by_cases c : ∃ n, BlN P i n d'
      · obtain ⟨n, c⟩ := c
        rw [if_pos ⟨n, c⟩, if_pos ⟨n + 1, d', e', w', h', c⟩]; omega
      · rw [if_neg c]
        by_cases c2 : ∃ n, BlN P i n j
        · rw [if_pos c2]; omega
        · rw [if_neg c2]; omega
/-- levels are bounded -/
theorem bl_rk {P : Nat → Nat → Nat → Nat → Prop} {o : Nat} {ρ : Nat → Nat} (h : ∀ d e w i, P d e w i → ρ d < ρ i) : ∀ n x, BlN P o n x → ρ o + n ≤ ρ x := by
  intro n
  induction n with
  | zero => intro x h; rw [show x = o from h]; exact Nat.le_refl _
  | succ n ih =>
    rintro x ⟨d, e, w, h1, h2⟩
    have := ih d h2; have := h _ _ _ _ h1; omega
theorem tr_rk {K : Nat → Nat} {P : Nat → Nat → Nat → Nat → Prop} {o : Nat} (T : TrD K P o) : ∃ ρ : Nat → Nat, (∀ d e w i, P d e w i → ρ d < ρ i) ∧ ∀ x, x < 64 → ρ x < 64 := by
  obtain ⟨t1, t2, t3, t4, tF, t5, ρ, t6⟩ := T
  refine ⟨fun x => cnR ρ (ρ x) 64, fun d e w i h => ?_, fun x hx => cn_lo ρ 64 hx⟩
  exact cn_lt ρ (t6 _ _ _ _ h) (Nat.le_refl _) 64 (t2 _ _ _ _ h).1
