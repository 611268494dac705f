/-! WHAT AN OPERATION TOUCHES; its end: undone, settled, committed early. -/
def Tch (L : Nat) (u0 u : DSt) : Prop := (∀ b, b < L → ∀ j, j < 8 → (dTou u b = true → dBef u (8 * b + j) = dNow u0 (8 * b + j)) ∧ (dTou u b = false → dNow u (8 * b + j) = dNow u0 (8 * b + j))) ∧ dCom u = dCom u0 ∧ dDif u = dDif u0 ∧ dEa u = dEa u0
theorem Tch.rf {L : Nat} {u0 : DSt} (h : ∀ b, b < L → dTou u0 b = false) : Tch L u0 u0 := ⟨fun b hb j _ => ⟨fun q => absurd q (by rw [h b hb]; decide), fun _ => rfl⟩, rfl, rfl, rfl⟩
section TC
variable {L : Nat} {u0 u : DSt}
theorem T_tch (T : Tch L u0 u) (b : Nat) : Tch L u0 (tch u b) := by
  by_cases h : dTou u b = true
  · rw [tch_t h]; exact T
  · rw [Bool.not_eq_true] at h
    rw [tch_f h]
    refine ⟨fun b' hb' j hj => ?_, T.2.1, T.2.2.1, T.2.2.2⟩
    have t := T.1 b' hb' j hj
    show (va_up (dTou u) b true b' = true → va_cpy (dNow u) (dBef u) (b * 8) (b * 8) 8 (8 * b' + j) = dNow u0 (8 * b' + j)) ∧ (va_up (dTou u) b true b' = false → dNow u (8 * b' + j) = dNow u0 (8 * b' + j))
    by_cases e : b' = b
    · subst e
      rw [va_up_self]
      refine ⟨fun _ => ?_, fun q => by cases q⟩
      unfold va_cpy; rw [if_pos (by omega), show b' * 8 + (8 * b' + j - b' * 8) = 8 * b' + j by omega]; exact t.2 h
    · rw [va_up_ne _ _ e]
      refine ⟨fun q => ?_, t.2⟩
      unfold va_cpy; rw [if_neg (by omega)]; exact t.1 q
theorem T_tou (u : DSt) (b : Nat) : dTou (tch u b) b = true := by
  by_cases h : dTou u b = true
  · rw [tch_t h]; exact h
  · rw [Bool.not_eq_true] at h
    rw [tch_f h]; exact va_up_self _ _ _
theorem T_now (T : Tch L u0 u) {b : Nat} (hb : dTou u b = true) {f : Nat → Int64} (hf : ∀ j, ¬ (8 * b ≤ j ∧ j < 8 * b + 8) → f j = dNow u j) : Tch L u0 (sNow u f) := by
  refine ⟨fun b' hb' j hj => ⟨(T.1 b' hb' j hj).1, fun q => ?_⟩, T.2.1, T.2.2.1, T.2.2.2⟩
  show f (8 * b' + j) = _
  have q : dTou u b' = false := q
  rw [hf _ (fun z => ?_)]
  · exact (T.1 b' hb' j hj).2 q
  · have : b' = b := by omega
    rw [this, hb] at q; cases q
theorem T_stB (T : Tch L u0 u) (q : Nat) (v : Int32) : Tch L u0 (stB u q v) := by
  unfold stB
  refine T_now (T_tch T _) (T_tou u (q / 64)) (fun j hj => ?_)
  rw [tch_now, va_up_ne _ _ (by omega)]
theorem T_setB (T : Tch L u0 u) (x v : Int32) : Tch L u0 (setB L u x v) := by
  unfold setB; split
  · exact T
  · exact T_stB T _ _
theorem T_setP (T : Tch L u0 u) (x v : Int32) : Tch L u0 (setP L u x v) := T_setB (T_setB T _ _) _ _
theorem T_flp (T : Tch L u0 u) (b : Nat) : Tch L u0 (flp u b) := by
  unfold flp
  refine T_now (T_tch T _) (T_tou u (57 + b / 512)) (fun j hj => ?_)
  rw [tch_now, va_up_ne _ _ (by omega)]
theorem T_tkN (T : Tch L u0 u) (b : Nat) : Tch L u0 (tkN u b) := by
  unfold tkN
  refine T_flp (T_now (T_tch T b) (T_tou u b) (fun j hj => ?_)) b
  rw [tch_now]; unfold zrB; rw [if_neg (by omega)]
theorem T_gvN (T : Tch L u0 u) (b : Nat) : Tch L u0 (gvN u b) := by
  unfold gvN
  refine T_flp (T_now (T_tch T b) (T_tou u b) (fun j hj => ?_)) b
  rw [tch_now]; unfold cpB va_cpy; rw [if_neg (by omega)]
theorem T_tkB (T : Tch L u0 u) (x : Int32) : Tch L u0 (tkB L u x) := by
  unfold tkB; split
  · exact T_tkN T _
  · exact T
theorem T_gvB (T : Tch L u0 u) (x : Int32) : Tch L u0 (gvB L u x) := by
  unfold gvB; split
  · exact T_gvN T _
  · exact T
theorem T_tkI (T : Tch L u0 u) (i : Nat) : Tch L u0 (tkI L u i).2 := by
  unfold tkI; split
  · exact T_setB (T_tkB T _) _ _
  · split
    · exact T
    · exact T_setB (T_setP (T_setB (T_tkB T _) _ _) _ _) _ _
theorem T_gvI (T : Tch L u0 u) (i : Nat) : Tch L u0 (gvI L u i) := by
  have h2 : Tch L u0 (gv2 L u i) := T_setB (T_gvB T _) _ _
  unfold gvI; split
  · exact T
  · split
    · exact T_setB (T_setP h2 _ _) _ _
    · exact h2
end TC
theorem T_rtG {L : Nat} {u0 : DSt} (i : Nat) : ∀ m u, Tch L u0 u → Tch L u0 (rtG L i m u).2 := by
  intro m
  induction m with
  | zero => intro u T; exact T
  | succ m ih =>
    intro u T; unfold rtG; split
    · exact ih _ (T_tkI T i)
    · exact T_tkI T i
theorem T_rgG {L : Nat} {u0 : DSt} (i : Nat) : ∀ m u, Tch L u0 u → Tch L u0 (rgG L i m u) := by
  intro m
  induction m with
  | zero => intro u T; exact T
  | succ m ih => intro u T; unfold rgG; exact ih _ (T_gvI T i)
theorem T_rzG {L : Nat} {u0 : DSt} (i : Nat) : ∀ m t u, Tch L u0 u → Tch L u0 (rzG L i m t u) := by
  intro m
  induction m with
  | zero => intro t u T; exact T
  | succ m ih => intro t u T; unfold rzG; exact ih _ _ (T_setB T _ _)
theorem T_rsz {L : Nat} {u0 u : DSt} (T : Tch L u0 u) (i n : Nat) : Tch L u0 (rsz L u i n).2 := by
  have h1 : Tch L u0 (rs1 L u i n).2 := T_rtG i _ u T
  unfold rsz; split
  · exact T_setP (T_rzG i _ _ _ (T_rgG i _ _ h1)) _ _
  · exact h1
theorem T_rel {L : Nat} {u0 u : DSt} (T : Tch L u0 u) (i : Nat) : Tch L u0 (rel L u i) := T_setB (T_rsz T i 0) _ _
theorem T_stE {L : Nat} {u0 u : DSt} (T : Tch L u0 u) (x w i : Int32) : Tch L u0 (stE L u x w i) := T_setB (T_setP T _ _) _ _
theorem T_adE {L : Nat} {u0 u : DSt} (T : Tch L u0 u) (d : Nat) (w i : Int32) : Tch L u0 (adE L u d w i).2 := by
  unfold adE; split
  · split
    · exact T_stE (T_rsz T _ _) _ _ _
    · exact T_rsz T _ _
  · exact T_stE T _ _ _
theorem T_wrG {L : Nat} {u0 : DSt} (i t : Nat) (f : Nat → Int32) : ∀ n j u, Tch L u0 u → Tch L u0 (wrG L i t f n j u) := by
  intro n
  induction n with
  | zero => intro j u T; exact T
  | succ n ih => intro j u T; unfold wrG; exact ih _ _ (T_setB T _ _)
/-- the loops over blocks -/
theorem fg_char : ∀ n b u, (∀ b', dTou (fgG n b u) b' = if b ≤ b' ∧ b' < b + n then false else dTou u b') ∧ dNow (fgG n b u) = dNow u ∧ dCom (fgG n b u) = dCom u ∧ dDif (fgG n b u) = dDif u ∧ dEa (fgG n b u) = dEa u := by
  intro n
  induction n with
  | zero => intro b u; exact ⟨fun b' => by rw [if_neg (by omega)]; rfl, rfl, rfl, rfl, rfl⟩
  | succ n ih =>
    intro b u
    unfold fgG
    obtain ⟨i1, i2, i3, i4, i5⟩ := ih (b + 1) (sTou u (va_up (dTou u) b false))
    refine ⟨fun b' => ?_, i2, i3, i4, i5⟩
    rw [i1 b']
    show (if b + 1 ≤ b' ∧ b' < b + 1 + n then false else va_up (dTou u) b false b') = _
    by_cases e : b' = b
    · subst e; rw [if_neg (by omega), va_up_self, if_pos (by omega)]
    · rw [va_up_ne _ _ e]
      by_cases c : b + 1 ≤ b' ∧ b' < b + 1 + n
      · rw [if_pos c, if_pos (by omega)]
      · rw [if_neg c, if_neg (by omega)]
theorem un_char : ∀ n b u, (∀ b' j, j < 8 → dNow (unG n b u) (8 * b' + j) = if (b ≤ b' ∧ b' < b + n) ∧ dTou u b' = true then dBef u (8 * b' + j) else dNow u (8 * b' + j)) ∧ dTou (unG n b u) = dTou u ∧ dCom (unG n b u) = dCom u ∧ dDif (unG n b u) = dDif u ∧ dEa (unG n b u) = dEa u := by
  intro n
  induction n with
  | zero => intro b u; exact ⟨fun b' j _ => by rw [if_neg (by omega)]; rfl, rfl, rfl, rfl, rfl⟩
  | succ n ih =>
    intro b u
    unfold unG
    by_cases h : dTou u b = true
    · rw [if_pos h]
      obtain ⟨i1, i2, i3, i4, i5⟩ := ih (b + 1) (sNow u (cpB (dBef u) (dNow u) b))
      refine ⟨fun b' j hj => ?_, i2, i3, i4, i5⟩
      rw [i1 b' j hj]
      show (if (b + 1 ≤ b' ∧ b' < b + 1 + n) ∧ dTou u b' = true then dBef u (8 * b' + j) else cpB (dBef u) (dNow u) b (8 * b' + j)) = _
      by_cases e : b' = b
      · subst e; rw [if_neg (by omega), if_pos ⟨by omega, h⟩]; unfold cpB va_cpy; rw [if_pos (by omega)]; congr 1; omega
      · have : cpB (dBef u) (dNow u) b (8 * b' + j) = dNow u (8 * b' + j) := by unfold cpB va_cpy; rw [if_neg (by omega)]
        rw [this]
        by_cases c : (b + 1 ≤ b' ∧ b' < b + 1 + n) ∧ dTou u b' = true
        · rw [if_pos c, if_pos ⟨by omega, c.2⟩]
        · rw [if_neg c, if_neg (fun z => c ⟨by omega, z.2⟩)]
    · rw [if_neg h]
      obtain ⟨i1, i2, i3, i4, i5⟩ := ih (b + 1) u
      refine ⟨fun b' j hj => ?_, i2, i3, i4, i5⟩
      rw [i1 b' j hj]
      by_cases e : b' = b
      · subst e; rw [if_neg (by omega), if_neg (fun z => h z.2)]
      · by_cases c : (b + 1 ≤ b' ∧ b' < b + 1 + n) ∧ dTou u b' = true
        · rw [if_pos c, if_pos ⟨by omega, c.2⟩]
        · rw [if_neg c, if_neg (fun z => c ⟨by omega, z.2⟩)]
theorem st_char : ∀ n b u, (∀ b', dDif (stG n b u) b' = if (b ≤ b' ∧ b' < b + n) ∧ dTou u b' = true then dfI (dNow u) (dCom u) b' 8 else dDif u b') ∧ dNow (stG n b u) = dNow u ∧ dTou (stG n b u) = dTou u ∧ dCom (stG n b u) = dCom u ∧ dBef (stG n b u) = dBef u ∧ dEa (stG n b u) = dEa u := by
  intro n
  induction n with
  | zero => intro b u; exact ⟨fun b' => by rw [if_neg (by omega)]; rfl, rfl, rfl, rfl, rfl, rfl⟩
  | succ n ih =>
    intro b u
    rw [stG_s]
    by_cases h : dTou u b = true
    · rw [if_pos h]
      obtain ⟨i1, i2, i3, i4, i5, i6⟩ := ih (b + 1) (cmp u b)
      refine ⟨fun b' => ?_, i2, i3, i4, i5, i6⟩
      rw [i1 b']
      show (if (b + 1 ≤ b' ∧ b' < b + 1 + n) ∧ dTou u b' = true then dfI (dNow u) (dCom u) b' 8 else va_up (dDif u) b (dfI (dNow u) (dCom u) b 8) b') = _
      by_cases e : b' = b
      · subst e; rw [if_neg (by omega), if_pos ⟨by omega, h⟩, va_up_self]
      · rw [va_up_ne _ _ e]
        by_cases c : (b + 1 ≤ b' ∧ b' < b + 1 + n) ∧ dTou u b' = true
        · rw [if_pos c, if_pos ⟨by omega, c.2⟩]
        · rw [if_neg c, if_neg (fun z => c ⟨by omega, z.2⟩)]
    · rw [if_neg h]
      obtain ⟨i1, i2, i3, i4, i5, i6⟩ := ih (b + 1) u
      refine ⟨fun b' => ?_, i2, i3, i4, i5, i6⟩
      rw [i1 b']
      by_cases e : b' = b
      · subst e; rw [if_neg (by omega), if_neg (fun z => h z.2)]
      · by_cases c : (b + 1 ≤ b' ∧ b' < b + 1 + n) ∧ dTou u b' = true
        · rw [if_pos c, if_pos ⟨by omega, c.2⟩]
        · rw [if_neg c, if_neg (fun z => c ⟨by omega, z.2⟩)]
theorem cpB_at (f g : Nat → Int64) (b b' : Nat) {j : Nat} (hj : j < 8) : cpB f g b (8 * b' + j) = if b' = b then f (8 * b' + j) else g (8 * b' + j) := by
  unfold cpB va_cpy
  by_cases e : b' = b
  · subst e; rw [if_pos rfl, if_pos (by omega)]; congr 1; omega
  · rw [if_neg e, if_neg (by omega)]
theorem frN_eq {f g : Nat → Int64} (h : ∀ j, 456 ≤ j → j < 472 → f j = g j) {b : Nat} (hb : b < 1024) : frN f b = frN g b := by
  unfold frN; rw [h _ (by omega) (by omega)]
theorem df_eq {f g f' g' : Nat → Int64} {b : Nat} (h1 : ∀ j, j < 8 → f (8 * b + j) = f' (8 * b + j)) (h2 : ∀ j, j < 8 → g (8 * b + j) = g' (8 * b + j)) : ∀ i, i ≤ 8 → dfI f g b i = dfI f' g' b i := by
  intro i
  induction i with
  | zero => intro _; rfl
  | succ i ih => intro h; unfold dfI; rw [ih (by omega), Nat.mul_comm b 8, h1 i (by omega), h2 i (by omega)]
/-- what was before becomes committed: block b of the loop -/
theorem cw_char (L : Nat) : ∀ n b u, b + n ≤ 768 → frN (dNow u) 57 = false → frN (dNow u) 58 = false →
    (∀ b' j, j < 8 → dCom (cwG L n b u) (8 * b' + j) = if b ≤ b' ∧ b' < b + n then (if dTou u b' = true then dBef u (8 * b' + j) else dNow u (8 * b' + j)) else dCom u (8 * b' + j)) ∧
    (∀ b' j, j < 8 → dNow (cwG L n b u) (8 * b' + j) = if (b ≤ b' ∧ b' < b + n) ∧ frN (dNow u) b' = true then (if dTou u b' = true then dBef u (8 * b' + j) else dNow u (8 * b' + j)) else dNow u (8 * b' + j)) ∧
    (∀ b', dDif (cwG L n b u) b' = if b ≤ b' ∧ b' < b + n then dfI (dNow (cwG L n b u)) (dCom (cwG L n b u)) b' 8 else dDif u b') ∧ dTou (cwG L n b u) = dTou u ∧ dEa (cwG L n b u) = dEa u := by
  intro n
  induction n with
  | zero => intro b u _ _ _; exact ⟨fun b' j _ => by rw [if_neg (by omega)]; rfl, fun b' j _ => by rw [if_neg (by omega)]; rfl, fun b' => by rw [if_neg (by omega)]; rfl, rfl, rfl⟩
  | succ n ih =>
    intro b u hn h57 h58
    rw [cwG_s]
    have f1 : ∀ b' j, j < 8 → dCom (cw1 L u b) (8 * b' + j) = if b' = b then (if dTou u b' = true then dBef u (8 * b' + j) else dNow u (8 * b' + j)) else dCom u (8 * b' + j) := by
      intro b' j hj
      have key : dCom (cw1 L u b) (8 * b' + j) = (if dTou u b = true then cpB (dBef u) (dCom u) b else cpB (dNow u) (dCom u) b) (8 * b' + j) := by
        unfold cw1; dsimp only
        by_cases t : dTou u b = true
        · rw [if_pos t, if_pos t]; split <;> rfl
        · rw [if_neg t, if_neg t]; split <;> rfl
      rw [key]
      by_cases t : dTou u b = true
      · rw [if_pos t, cpB_at _ _ _ _ hj]
        by_cases e : b' = b
        · subst e; rw [if_pos rfl, if_pos rfl, if_pos t]
        · rw [if_neg e, if_neg e]
      · rw [if_neg t, cpB_at _ _ _ _ hj]
        by_cases e : b' = b
        · subst e; rw [if_pos rfl, if_pos rfl, if_neg t]
        · rw [if_neg e, if_neg e]
    have f2 : ∀ b' j, j < 8 → dNow (cw1 L u b) (8 * b' + j) = if b' = b ∧ frN (dNow u) b' = true then (if dTou u b' = true then dBef u (8 * b' + j) else dNow u (8 * b' + j)) else dNow u (8 * b' + j) := by
      intro b' j hj
      by_cases t : dTou u b = true
      · by_cases f : frN (dNow u) b = true
        · rw [cw1_tt t f]
          show cpB (cpB (dBef u) (dCom u) b) (dNow u) b (8 * b' + j) = _
          rw [cpB_at _ _ _ _ hj]
          by_cases e : b' = b
          · subst e; rw [if_pos rfl, if_pos ⟨rfl, f⟩, if_pos t, cpB_at _ _ _ _ hj, if_pos rfl]
          · rw [if_neg e, if_neg (fun z => e z.1)]
        · rw [Bool.not_eq_true] at f
          rw [cw1_tf t f, if_neg (fun z => by rw [z.1, f] at z; exact absurd z.2 (by decide))]; rfl
      · rw [Bool.not_eq_true] at t
        by_cases f : frN (dNow u) b = true
        · rw [cw1_ft t f]
          show cpB (cpB (dNow u) (dCom u) b) (dNow u) b (8 * b' + j) = _
          rw [cpB_at _ _ _ _ hj]
          by_cases e : b' = b
          · subst e; rw [if_pos rfl, if_pos ⟨rfl, f⟩, if_neg (by rw [t]; decide), cpB_at _ _ _ _ hj, if_pos rfl]
          · rw [if_neg e, if_neg (fun z => e z.1)]
        · rw [Bool.not_eq_true] at f
          rw [cw1_ff t f, if_neg (fun z => by rw [z.1, f] at z; exact absurd z.2 (by decide))]; rfl
    have f3 : ∀ b', dDif (cw1 L u b) b' = if b' = b then dfI (dNow (cw1 L u b)) (dCom (cw1 L u b)) b 8 else dDif u b' := by
      intro b'
      have : ∀ v : DSt, dDif (cmp v b) b' = if b' = b then dfI (dNow (cmp v b)) (dCom (cmp v b)) b 8 else dDif v b' := fun v => by
        show va_up (dDif v) b (dfI (dNow v) (dCom v) b 8) b' = if b' = b then dfI (dNow v) (dCom v) b 8 else dDif v b'
        unfold va_up; rfl
      unfold cw1; dsimp only
      rw [this]
      by_cases e : b' = b
      · rw [if_pos e, if_pos e]
      · rw [if_neg e, if_neg e]
        by_cases t : dTou u b = true
        · rw [if_pos t]; split <;> rfl
        · rw [if_neg t]; split <;> rfl
    have f4 : dTou (cw1 L u b) = dTou u ∧ dBef (cw1 L u b) = dBef u ∧ dEa (cw1 L u b) = dEa u := by
      unfold cw1; dsimp only
      by_cases t : dTou u b = true
      · rw [if_pos t]; split <;> exact ⟨rfl, rfl, rfl⟩
      · rw [if_neg t]; split <;> exact ⟨rfl, rfl, rfl⟩
    have fm : ∀ j, 456 ≤ j → j < 472 → dNow (cw1 L u b) j = dNow u j := by
      intro j h1 h2
      have := f2 (j / 8) (j % 8) (by omega)
      rw [show 8 * (j / 8) + j % 8 = j by omega] at this
      rw [this, if_neg]
      intro z
      have : j / 8 = 57 ∨ j / 8 = 58 := by omega
      rcases this with e | e
      · rw [e, h57] at z; exact absurd z.2 (by decide)
      · rw [e, h58] at z; exact absurd z.2 (by decide)
    have ff : ∀ b', b' < 1024 → frN (dNow (cw1 L u b)) b' = frN (dNow u) b' := fun b' hb' => frN_eq fm hb'
    obtain ⟨i1, i2, i3, i4, i5⟩ := ih (b + 1) (cw1 L u b) (by omega) (by rw [ff _ (by decide)]; exact h57) (by rw [ff _ (by decide)]; exact h58)
    rw [f4.1, f4.2.1] at i1 i2
    have now_b : ∀ b' j, j < 8 → b' ≠ b → dNow (cw1 L u b) (8 * b' + j) = dNow u (8 * b' + j) := fun b' j hj e => by rw [f2 b' j hj, if_neg (fun z => e z.1)]
    refine ⟨fun b' j hj => ?_, fun b' j hj => ?_, fun b' => ?_, i4.trans f4.1, i5.trans f4.2.2⟩
    · rw [i1 b' j hj, f1 b' j hj]
      by_cases e : b' = b
      · subst e; rw [if_neg (by omega), if_pos rfl, if_pos (show b' ≤ b' ∧ b' < b' + (n + 1) by omega)]
      · rw [if_neg e, now_b b' j hj e]
        by_cases c : b + 1 ≤ b' ∧ b' < b + 1 + n
        · rw [if_pos c, if_pos (show b ≤ b' ∧ b' < b + (n + 1) by omega)]
        · rw [if_neg c, if_neg (show ¬ (b ≤ b' ∧ b' < b + (n + 1)) by omega)]
    · rw [i2 b' j hj]
      by_cases e : b' = b
      · subst e
        rw [if_neg (by omega), f2 b' j hj]
        by_cases f : frN (dNow u) b' = true
        · rw [if_pos ⟨rfl, f⟩, if_pos (show (b' ≤ b' ∧ b' < b' + (n + 1)) ∧ frN (dNow u) b' = true from ⟨by omega, f⟩)]
        · rw [if_neg (fun z => f z.2), if_neg (fun z => f z.2)]
      · rw [now_b b' j hj e]
        by_cases c : b + 1 ≤ b' ∧ b' < b + 1 + n
        · rw [ff b' (by omega)]
          by_cases f : frN (dNow u) b' = true
          · rw [if_pos ⟨c, f⟩, if_pos (show (b ≤ b' ∧ b' < b + (n + 1)) ∧ frN (dNow u) b' = true from ⟨by omega, f⟩)]
          · rw [if_neg (fun z => f z.2), if_neg (fun z => f z.2)]
        · rw [if_neg (fun z => c z.1), if_neg (fun z => c (by omega))]
    · rw [i3 b']
      by_cases e : b' = b
      · subst e
        rw [if_neg (by omega), f3 b', if_pos rfl, if_pos (show b' ≤ b' ∧ b' < b' + (n + 1) by omega)]
        refine (df_eq (fun j hj => ?_) (fun j hj => ?_) 8 (Nat.le_refl _))
        · rw [i2 b' j hj, if_neg (fun z => absurd z.1 (by omega))]
        · rw [i1 b' j hj, if_neg (by omega)]
      · rw [f3 b', if_neg e]
        by_cases c : b + 1 ≤ b' ∧ b' < b + 1 + n
        · rw [if_pos c, if_pos (show b ≤ b' ∧ b' < b + (n + 1) by omega)]
        · rw [if_neg c, if_neg (show ¬ (b ≤ b' ∧ b' < b + (n + 1)) by omega)]
/-- longs differ just where bytes do -/
theorem df_iff (f g : Nat → Int64) (b : Nat) : ∀ i, dfI f g b i = true ↔ ∃ j, j < i ∧ f (8 * b + j) ≠ g (8 * b + j) := by
  intro i
  induction i with
  | zero => exact ⟨fun h => absurd (show false = true from h) (by decide), fun ⟨j, h, _⟩ => absurd h (Nat.not_lt_zero _)⟩
  | succ i ih =>
    unfold dfI
    rw [Bool.or_eq_true, ih, Nat.mul_comm b 8]
    constructor
    · rintro (⟨j, h1, h2⟩ | h)
      · exact ⟨j, by omega, h2⟩
      · exact ⟨i, by omega, fun e => by rw [decide_eq_true e] at h; cases h⟩
    · rintro ⟨j, h1, h2⟩
      by_cases e : j = i
      · subst e; right; rw [decide_eq_false h2]; rfl
      · exact Or.inl ⟨j, by omega, h2⟩
theorem byt_long {f g : Nat → Int64} {b : Nat} : (∀ j, j < 8 → f (8 * b + j) = g (8 * b + j)) ↔ ∀ c, c < 64 → byt f (64 * b + c) = byt g (64 * b + c) := by
  constructor
  · intro h c hc
    unfold byt
    rw [show (64 * b + c) / 8 = 8 * b + c / 8 by omega, h (c / 8) (by omega)]
  · intro h j hj
    apply nn_ext
    intro k hk
    have := h (8 * j + k) (by omega)
    unfold byt at this
    rw [show (64 * b + (8 * j + k)) / 8 = 8 * b + j by omega, show (64 * b + (8 * j + k)) % 8 = k by omega] at this
    exact this
theorem df_byt (f g : Nat → Int64) (b : Nat) : dfI f g b 8 = true ↔ ∃ c, c < 64 ∧ byt f (64 * b + c) ≠ byt g (64 * b + c) := by
  rw [df_iff]
  constructor
  · rintro ⟨j, h1, h2⟩
    refine Classical.byContradiction (fun z => h2 ?_)
    exact byt_long.mpr (fun c hc => Classical.byContradiction (fun q => z ⟨c, hc, q⟩)) j h1
  · rintro ⟨c, h1, h2⟩
    refine Classical.byContradiction (fun z => h2 ?_)
    exact byt_long.mp (fun j hj => Classical.byContradiction (fun q => z ⟨j, hj, q⟩)) c h1
