/-! ONE STEP OF THE LAW: for any numbers of the script both answer alike, and what held holds again. -/
theorem ix64 (x : Int32) : (x < 0 ∨ nI 64 ≤ x) ∨ ∃ d, d < 64 ∧ x = nI d := by
  rcases pk_ix x (n := 64) (by decide) with h | h | h
  · exact Or.inl (Or.inl h)
  · exact Or.inl (Or.inr h)
  · exact Or.inr h
theorem inR_f {x : Int32} {a b : Nat} (h : x < nI a ∨ nI b < x) : inR x (nI a) (nI b) = false := by
  unfold inR
  rw [decide_eq_false_iff_not]
  rintro ⟨h1, h2⟩
  rcases h with q | q
  · exact Int32.not_lt.mpr h1 q
  · exact Int32.not_lt.mpr h2 q
theorem lt_of_ge {x : Int32} {n : Nat} (hn : n + 1 < 2147483648) (h : nI (n + 1) ≤ x) : nI n < x := by
  refine Classical.byContradiction (fun q => ?_)
  have h2 : x ≤ nI n := Int32.not_lt.mp q
  have h3 : nI (n + 1) ≤ nI n := Int32.le_trans h h2
  exact nI_ge (a := n) (b := n + 1) (by omega) (by omega) h3
theorem bad64 {x : Int32} (h : x < 0 ∨ nI 64 ≤ x) : inR x (nI 0) (nI 63) = false := inR_f (h.elim (fun q => Or.inl (by rw [nI_0]; exact q)) (fun q => Or.inr (lt_of_ge (n := 63) (by decide) q)))
theorem ixR (x : Int32) {a b : Nat} (hab : a ≤ b) (hb : b < 2147483648) : (x < nI a ∨ nI b < x) ∨ ∃ w, a ≤ w ∧ w ≤ b ∧ x = nI w := by
  by_cases h1 : x < nI a
  · exact Or.inl (Or.inl h1)
  · by_cases h2 : nI b < x
    · exact Or.inl (Or.inr h2)
    · have h0 : ¬ x < 0 := fun q => h1 (Int32.lt_of_lt_of_le q (nI_pos' (by omega)))
      obtain ⟨w, hw, rfl⟩ := nI_of h0
      refine Or.inr ⟨w, ?_, ?_, rfl⟩
      · rcases Nat.lt_or_ge w a with q | q
        · exact absurd (nI_lt q (by omega)) h1
        · exact q
      · rcases Nat.lt_or_ge b w with q | q
        · exact absurd (nI_lt q (by omega)) h2
        · exact q
def StH (l : Launch) (y1 : MethodName) (ws1 : List Cond) (rm1 : Room) (av1 : List Value) (y2 : MethodName) (ws2 : List Cond) (rm2 : Room) (av2 : List Value) (D : va_G) (g : Nat → Nat) (k : Nat → ClassId) (L : Nat) (u : DSt) (f0 : Nat → Int32) (tl : Nat) (tp : Nat → Int32) (qo : Nat) (fo : Nat → Int64) (r : RSt) : Prop :=
  ∃ (u1 : DSt) (f1 : Nat → Int32) (tl1 : Nat) (tp1 : Nat → Int32) (fo1 : Nat → Int64) (r1 : RSt) (k9 b9 : Int32), MuH l y1 ws1 rm1 av1 D cl5 (tyC k) (wX g k L u f0 tl tp qo fo) (wX g k L u1 f1 tl1 tp1 qo fo1) k9 ∧ MuI l y2 ws2 rm2 av2 D cl5 (tyC k) (wM g k L r) (wM g k L r1) b9 ∧ rTh r1 = k9 ∧ (k9 = 0 → fo1 0 = b9.toInt64) ∧ Ivt L u1 tl1 tp1 r1
section ST
variable {l : Launch} {D : va_G} {g : Nat → Nat} {k : Nat → ClassId} {L : Nat} {u : DSt} {f0 : Nat → Int32} {tl : Nat} {tp : Nat → Int32} {qo : Nat} {fo : Nat → Int64} {r : RSt}
theorem StH.bad {y1 : MethodName} {ws1 : List Cond} {rm1 : Room} {av1 : List Value} {y2 : MethodName} {ws2 : List Cond} {rm2 : Room} {av2 : List Value} {c9 : Int32} (hL0 : 96 ≤ L) (I : Ivt L u tl tp r) (hc : ¬ c9 = 0) (h1 : MuH l y1 ws1 rm1 av1 D cl5 (tyC k) (wX g k L u f0 tl tp qo fo) (wX g k L u f0 tl tp qo fo) c9) (h2 : MuI l y2 ws2 rm2 av2 D cl5 (tyC k) (wM g k L r) (wM g k L (qTh r c9)) (nI 0)) : StH l y1 ws1 rm1 av1 y2 ws2 rm2 av2 D g k L u f0 tl tp qo fo r :=
  ⟨u, f0, tl, tp, fo, qTh r c9, c9, nI 0, h1, h2, rfl, fun q => absurd q hc, ivt_th hL0 I c9⟩
theorem StH.ok {y1 : MethodName} {ws1 : List Cond} {rm1 : Room} {av1 : List Value} {y2 : MethodName} {ws2 : List Cond} {rm2 : Room} {av2 : List Value} {u1 : DSt} {f1 : Nat → Int32} {tl1 : Nat} {tp1 : Nat → Int32} {r1 : RSt} {a9 b9 : Int32} (h1 : MuH l y1 ws1 rm1 av1 D cl5 (tyC k) (wX g k L u f0 tl tp qo fo) (wX g k L u1 f1 tl1 tp1 qo (va_up fo 0 a9.toInt64)) (nI 0)) (h2 : MuI l y2 ws2 rm2 av2 D cl5 (tyC k) (wM g k L r) (wM g k L r1) b9) (ht : rTh r1 = nI 0) (he : b9 = a9) (I : Ivt L u1 tl1 tp1 r1) : StH l y1 ws1 rm1 av1 y2 ws2 rm2 av2 D g k L u f0 tl tp qo fo r :=
  ⟨u1, f1, tl1, tp1, _, r1, nI 0, b9, h1, h2, ht, fun _ => by rw [va_up_self, he], I⟩
theorem one_ne : ¬ nI 1 = 0 := by decide
theorem two_ne : ¬ nI 2 = 0 := by decide
theorem Ivt.B (I : Ivt L u tl tp r) : rB r := I.2.2.2.2.2.2.2.2.1
theorem Ivt.W (I : Ivt L u tl tp r) : WFr L r := I.2.1
theorem Ivt.X (I : Ivt L u tl tp r) : ∀ i, i < 64 → rNd r (20 * i + 2) ≤ 8 := fun i hi => (I.W.1.1.1 i hi).1
theorem s_feed (htr : l.stackTraces = false) (hL0 : 96 ≤ L) (hL : L ≤ 768) (I : Ivt L u tl tp r) (x : Int32) (v : Int64) : StH l y_Law_feed w_Law_feed ({ frames := 8, cells := 1, slots := 6, locals := 134 }) [.ref (g 9), .int x, .long v, .ref qo] y_Mod_feed w_Mod_feed ({ frames := 1, cells := 0, slots := 0, locals := 22 }) [.ref (g 20), .int x, .long v] D g k L u f0 tl tp qo fo r := by
  have t := I.2.2.2.2.2.2.2.1
  rcases ixR x (a := 1) (b := 8) (by decide) (by decide) with h | ⟨n, h1, h2, rfl⟩
  · exact StH.bad hL0 I one_ne (h_feed_x l htr D g k L hL0 hL u f0 tl tp qo fo x v h) (c_Mod_feed_b l D g k L hL0 hL r I.B x v (inR_f h))
  · by_cases ht : tl + n ≤ 512
    · exact StH.ok (h_feed l htr D g k L hL0 hL u f0 tl tp qo fo n v h1 h2 ht) (c_Mod_feed l D g k L hL0 hL r I.B n v h1 h2 (by rw [← t.1]; exact ht)) rfl (by rw [t.1]) (x_feed hL0 I h2 ht)
    · exact StH.bad hL0 I two_ne (h_feed_y l htr D g k L hL0 hL u f0 tl tp qo fo n v h1 h2 t.2.1 (by omega)) (c_Mod_feed_c l D g k L hL0 hL r I.B n v h1 h2 (by rw [← t.1]; exact t.2.1) (by rw [← t.1]; omega))
theorem s_make (htr : l.stackTraces = false) (hL0 : 96 ≤ L) (hL : L ≤ 768) (I : Ivt L u tl tp r) (x y : Int32) (b : Bool) : StH l y_Law_make w_Law_make ({ frames := 9, cells := 1, slots := 6, locals := 229 }) [.ref (g 9), .int x, .int y, .int (zI b), .ref qo] y_Mod_make w_Mod_make ({ frames := 8, cells := 0, slots := 0, locals := 196 }) [.ref (g 20), .int x, .int y, .int (zI b)] D g k L u f0 tl tp qo fo r := by
  rcases ix64 x with h | ⟨d, hd, rfl⟩
  · exact StH.bad hL0 I one_ne (h_make_x l htr D g k L hL0 hL u f0 tl tp qo fo x y b h) (c_Mod_make_b l D g k L hL0 hL r I.B x y b (by rw [bad64 h]; rfl))
  · rcases ixR y (a := 1) (b := 65535) (by decide) (by decide) with h | ⟨w, h1, h2, rfl⟩
    · exact StH.bad hL0 I one_ne (h_make_y l htr D g k L hL0 hL u f0 tl tp qo fo d y b hd h) (c_Mod_make_b l D g k L hL0 hL r I.B (nI d) y b (by rw [inR_f h, Bool.or_comm]; rfl))
    · obtain ⟨p1, p2, p3, p4⟩ := x_make b hL0 hL I hd h1 h2
      exact StH.ok (h_make l htr D g k L hL0 hL u f0 tl tp qo fo d w b hd h1 h2) (c_Mod_make l D g k L hL0 hL r I.B d w b hd h1 h2 p1) p4 p2 p3
theorem s_find (htr : l.stackTraces = false) (hL0 : 96 ≤ L) (hL : L ≤ 768) (I : Ivt L u tl tp r) (x y : Int32) : StH l y_Law_find w_Law_find ({ frames := 9, cells := 1, slots := 6, locals := 162 }) [.ref (g 9), .int x, .int y, .ref qo] y_Mod_find w_Mod_find ({ frames := 4, cells := 0, slots := 0, locals := 92 }) [.ref (g 20), .int x, .int y] D g k L u f0 tl tp qo fo r := by
  rcases ix64 x with h | ⟨d, hd, rfl⟩
  · exact StH.bad hL0 I one_ne (h_find_x l htr D g k L hL0 hL u f0 tl tp qo fo x y h) (c_Mod_find_b l D g k L hL0 hL r I.B x y (by rw [bad64 h]; rfl))
  · rcases ixR y (a := 1) (b := 65535) (by decide) (by decide) with h | ⟨w, h1, h2, rfl⟩
    · exact StH.bad hL0 I one_ne (h_find_y l htr D g k L hL0 hL u f0 tl tp qo fo d y hd h) (c_Mod_find_b l D g k L hL0 hL r I.B (nI d) y (by rw [inR_f h, Bool.or_comm]; rfl))
    · have I' := ivt_th hL0 I (nI 0)
      exact StH.ok (h_find l htr D g k L hL0 hL u f0 tl tp qo fo d w hd h1 h2) (c_Mod_find l D g k L hL0 hL r I.B d w hd h1 h2 I'.W.ok) rfl (y_find hL0 hL I' hd).symm I'
theorem s_write (htr : l.stackTraces = false) (hL0 : 96 ≤ L) (hL : L ≤ 768) (I : Ivt L u tl tp r) (x y : Int32) : StH l y_Law_write w_Law_write ({ frames := 9, cells := 1, slots := 6, locals := 206 }) [.ref (g 9), .int x, .int y, .ref qo] y_Mod_write w_Mod_write ({ frames := 8, cells := 0, slots := 0, locals := 196 }) [.ref (g 20), .int x, .int y] D g k L u f0 tl tp qo fo r := by
  have t := I.2.2.2.2.2.2.2.1
  rcases ix64 x with h | ⟨i, hi, rfl⟩
  · exact StH.bad hL0 I one_ne (h_write_x l htr D g k L hL0 hL u f0 tl tp qo fo x y h) (c_Mod_write_b l D g k L hL0 hL r I.B x y (by rw [bad64 h]; rfl))
  · obtain ⟨p1, p2, p3, p4⟩ := x_write (x := y) hL0 hL I hi
    exact StH.ok (h_write l htr D g k L hL0 hL u f0 tl tp qo fo i y hi t.2.1) (c_Mod_write l D g k L hL0 hL r I.B i y hi (by rw [← t.1]; exact t.2.1) p1) p4 p2 p3
theorem s_cut (htr : l.stackTraces = false) (hL0 : 96 ≤ L) (hL : L ≤ 768) (I : Ivt L u tl tp r) (x y : Int32) : StH l y_Law_cut w_Law_cut ({ frames := 9, cells := 1, slots := 6, locals := 202 }) [.ref (g 9), .int x, .int y, .ref qo] y_Mod_cut w_Mod_cut ({ frames := 8, cells := 0, slots := 0, locals := 196 }) [.ref (g 20), .int x, .int y] D g k L u f0 tl tp qo fo r := by
  rcases ix64 x with h | ⟨i, hi, rfl⟩
  · exact StH.bad hL0 I one_ne (h_cut_x l htr D g k L hL0 hL u f0 tl tp qo fo x y h) (c_Mod_cut_b l D g k L hL0 hL r I.B x y (by rw [bad64 h]; rfl))
  · obtain ⟨p1, p2, p3, p4⟩ := x_cut (x := y) hL0 hL I hi
    exact StH.ok (h_cut l htr D g k L hL0 hL u f0 tl tp qo fo i y hi) (c_Mod_cut l D g k L hL0 hL r I.B i y hi p1) p4 p2 p3
theorem s_remove (htr : l.stackTraces = false) (hL0 : 96 ≤ L) (hL : L ≤ 768) (I : Ivt L u tl tp r) (x y : Int32) : StH l y_Law_remove w_Law_remove ({ frames := 9, cells := 1, slots := 6, locals := 224 }) [.ref (g 9), .int x, .int y, .ref qo] y_Mod_remove w_Mod_remove ({ frames := 8, cells := 0, slots := 0, locals := 196 }) [.ref (g 20), .int x, .int y] D g k L u f0 tl tp qo fo r := by
  rcases ix64 x with h | ⟨d, hd, rfl⟩
  · exact StH.bad hL0 I one_ne (h_remove_x l htr D g k L hL0 hL u f0 tl tp qo fo x y h) (c_Mod_remove_b l D g k L hL0 hL r I.B x y (by rw [bad64 h]; rfl))
  · rcases ixR y (a := 1) (b := 65535) (by decide) (by decide) with h | ⟨w, h1, h2, rfl⟩
    · exact StH.bad hL0 I one_ne (h_remove_y l htr D g k L hL0 hL u f0 tl tp qo fo d y hd h) (c_Mod_remove_b l D g k L hL0 hL r I.B (nI d) y (by rw [inR_f h, Bool.or_comm]; rfl))
    · obtain ⟨p1, p2, p3, p4⟩ := x_remove hL0 hL I hd h1
      exact StH.ok (h_remove l htr D g k L hL0 hL u f0 tl tp qo fo d w hd h1 h2) (c_Mod_remove l D g k L hL0 hL r I.B d w hd h1 h2 p1) p4 p2 p3
theorem s_move (htr : l.stackTraces = false) (hL0 : 96 ≤ L) (hL : L ≤ 768) (I : Ivt L u tl tp r) (x y x2 y2 : Int32) : StH l y_Law_move w_Law_move ({ frames := 9, cells := 1, slots := 6, locals := 232 }) [.ref (g 9), .int x, .int y, .int x2, .int y2, .ref qo] y_Mod_move w_Mod_move ({ frames := 8, cells := 0, slots := 0, locals := 196 }) [.ref (g 20), .int x, .int y, .int x2, .int y2] D g k L u f0 tl tp qo fo r := by
  have or4 : ∀ {a b c e : Bool}, (a = true ∨ b = true ∨ c = true ∨ e = true) → (a || b || c || e) = true := by decide
  rcases ix64 x with h | ⟨d, hd, rfl⟩
  · exact StH.bad hL0 I one_ne (h_move_x l htr D g k L hL0 hL u f0 tl tp qo fo x y x2 y2 h) (c_Mod_move_b l D g k L hL0 hL r I.B x y x2 y2 (or4 (Or.inl (by rw [bad64 h]; rfl))))
  · rcases ixR y (a := 1) (b := 65535) (by decide) (by decide) with h | ⟨w, h1, h2, rfl⟩
    · exact StH.bad hL0 I one_ne (h_move_y l htr D g k L hL0 hL u f0 tl tp qo fo d y x2 y2 hd h) (c_Mod_move_b l D g k L hL0 hL r I.B (nI d) y x2 y2 (or4 (Or.inr (Or.inl (by rw [inR_f h]; rfl)))))
    · rcases ix64 x2 with h | ⟨d2, hd2, rfl⟩
      · exact StH.bad hL0 I one_ne (h_move_z l htr D g k L hL0 hL u f0 tl tp qo fo d w x2 y2 hd h1 h2 h) (c_Mod_move_b l D g k L hL0 hL r I.B (nI d) (nI w) x2 y2 (or4 (Or.inr (Or.inr (Or.inl (by rw [bad64 h]; rfl))))))
      · rcases ixR y2 (a := 1) (b := 65535) (by decide) (by decide) with h | ⟨w2, h3, h4, rfl⟩
        · exact StH.bad hL0 I one_ne (h_move_w l htr D g k L hL0 hL u f0 tl tp qo fo d w d2 y2 hd h1 h2 hd2 h) (c_Mod_move_b l D g k L hL0 hL r I.B (nI d) (nI w) (nI d2) y2 (or4 (Or.inr (Or.inr (Or.inr (by rw [inR_f h]; rfl))))))
        · obtain ⟨p1, p2, p3, p4⟩ := x_move (f := f0) hL0 hL I hd h1 hd2 h3 h4
          exact StH.ok (h_move l htr D g k L hL0 hL u f0 tl tp qo fo d w d2 w2 hd h1 h2 hd2 h3 h4) (c_Mod_move l D g k L hL0 hL r I.B d w d2 w2 hd h1 h2 hd2 h3 h4 p1) p4 p2 p3
theorem s_node (htr : l.stackTraces = false) (hL0 : 96 ≤ L) (hL : L ≤ 768) (I : Ivt L u tl tp r) (x y : Int32) : StH l y_Law_node w_Law_node ({ frames := 9, cells := 1, slots := 6, locals := 153 }) [.ref (g 9), .int x, .int y, .ref qo] y_Mod_node w_Mod_node ({ frames := 2, cells := 0, slots := 0, locals := 42 }) [.ref (g 20), .int x, .int y] D g k L u f0 tl tp qo fo r := by
  rcases ix64 x with h | ⟨i, hi, rfl⟩
  · exact StH.bad hL0 I one_ne (h_node_x l htr D g k L hL0 hL u f0 tl tp qo fo x y h) (c_Mod_node_b l D g k L hL0 hL r I.B x y (by rw [bad64 h]; rfl))
  · have eX : iX L (dNow u) i = rNd r (20 * i + 2) := R_X I.1 hL0 hL hi
    have h8 := I.X i hi
    rcases ixR y (a := 0) (b := 2 + 2 * rNd r (20 * i + 2)) (by omega) (by omega) with h | ⟨w, -, h2, rfl⟩
    · refine StH.bad hL0 I two_ne (h_node_y l htr D g k L hL0 hL u f0 tl tp qo fo i y hi ?_) (c_Mod_node_c l D g k L hL0 hL r I.B i y hi I.X (inR_f h))
      rw [eX]
      rcases h with q | q
      · exact Or.inl (by rw [nI_0] at q; exact q)
      · refine Or.inr ?_
        by_cases z : y < 0
        · exact absurd (Int32.lt_trans q z) (nI_pos (by omega))
        · obtain ⟨w, hw, rfl⟩ := nI_of z
          exact nI_le (by have := (nI_ltI (by omega) (by omega)).mp q; omega) (by omega)
    · have I' := ivt_th hL0 I (nI 0)
      exact StH.ok (h_node l htr D g k L hL0 hL u f0 tl tp qo fo i w hi (by rw [eX]; omega)) (c_Mod_node l D g k L hL0 hL r I.B i w hi I.X h2) rfl (by rw [y_node hL0 hL I hi (by omega)]) I'
theorem s_at (htr : l.stackTraces = false) (hL0 : 96 ≤ L) (hL : L ≤ 768) (I : Ivt L u tl tp r) (x y : Int32) (cm : Bool) : StH l y_Law_at w_Law_at ({ frames := 8, cells := 1, slots := 6, locals := 134 }) [.ref (g 9), .int x, .int y, .int (zI cm), .ref qo] y_Mod_at w_Mod_at ({ frames := 2, cells := 0, slots := 0, locals := 47 }) [.ref (g 20), .int x, .int y, .int (zI cm)] D g k L u f0 tl tp qo fo r := by
  rcases ixR x (a := 0) (b := L - 1) (by omega) (by omega) with h | ⟨b, -, h2, rfl⟩
  · refine StH.bad hL0 I one_ne (h_at_x l htr D g k L hL0 hL u f0 tl tp qo fo x y cm ?_) (c_Mod_at_b l D g k L hL0 hL r I.B x y cm (by rw [inR_f h]; rfl))
    cases q : hsB L x with
    | false => rfl
    | true =>
      obtain ⟨b, hb, rfl⟩ := hsB_of q hL
      rcases h with z | z
      · exact absurd z (nI_nlt (by omega) (by omega))
      · have := (nI_ltI (by omega) (by omega)).mp z; omega
  · rcases ix64 y with h | ⟨j, hj, rfl⟩
    · exact StH.bad hL0 I one_ne (h_at_x l htr D g k L hL0 hL u f0 tl tp qo fo (nI b) y cm (by rw [decide_eq_true h, Bool.and_comm]; rfl)) (c_Mod_at_b l D g k L hL0 hL r I.B (nI b) y cm (by rw [bad64 h, Bool.and_comm]; rfl))
    · have I' := ivt_th hL0 I (nI 0)
      have hb : b < L := by omega
      exact StH.ok (h_at l htr D g k L hL0 hL u f0 tl tp qo fo b j cm hb hj) (c_Mod_at l D g k L hL0 hL r I.B b j cm hb hj I.X) rfl (by rw [y_at cm hL0 hL I' hb hj]) I'
theorem s_changed (htr : l.stackTraces = false) (hL0 : 96 ≤ L) (hL : L ≤ 768) (I : Ivt L u tl tp r) (x : Int32) : StH l y_Law_changed w_Law_changed ({ frames := 8, cells := 1, slots := 6, locals := 132 }) [.ref (g 9), .int x, .ref qo] y_Mod_changed w_Mod_changed ({ frames := 3, cells := 0, slots := 0, locals := 70 }) [.ref (g 20), .int x] D g k L u f0 tl tp qo fo r := by
  have I' := ivt_th hL0 I (nI 0)
  have e := y_changed (x := x) hL0 hL I'
  by_cases h : dbk L (dDif u) x = -1
  · exact StH.bad hL0 I one_ne (h_changed_x l htr D g k L hL0 hL u f0 tl tp qo fo x h) (c_Mod_changed_b l D g k L hL0 hL r I.B x I.X (by rw [← e]; exact h))
  · exact StH.ok (h_changed l htr D g k L hL0 hL u f0 tl tp qo fo x h) (c_Mod_changed l D g k L hL0 hL r I.B x I.X (by rw [← e]; exact h)) rfl e.symm I'
theorem s_look (htr : l.stackTraces = false) (hL0 : 96 ≤ L) (hL : L ≤ 768) (I : Ivt L u tl tp r) (x : Int32) : StH l y_Law_look w_Law_look ({ frames := 8, cells := 1, slots := 6, locals := 131 }) [.ref (g 9), .int x, .ref qo] y_Mod_look w_Mod_look ({ frames := 4, cells := 0, slots := 0, locals := 92 }) [.ref (g 20), .int x] D g k L u f0 tl tp qo fo r := by
  rcases ixR x (a := 0) (b := 6) (by decide) (by decide) with h | ⟨w, -, h2, rfl⟩
  · exact StH.bad hL0 I one_ne (h_look_x l htr D g k L hL0 hL u f0 tl tp qo fo x (by rw [nI_0] at h; exact h)) (c_Mod_look_b l D g k L hL0 hL r I.B x (inR_f h))
  · have I' := ivt_th hL0 I (nI 0)
    exact StH.ok (h_look l htr D g k L hL0 hL u f0 tl tp qo fo w h2) (c_Mod_look l D g k L hL0 hL r I.B w h2 I.X) rfl (y_look hL0 hL I' h2).symm I'
theorem s_read (htr : l.stackTraces = false) (hL0 : 96 ≤ L) (hL : L ≤ 768) (I : Ivt L u tl tp r) (x y : Int32) : ∃ (fo1 : Nat → Int64) (r1 : RSt) (k9 : Int32) (b9 : Int64), MuH l y_Law_read w_Law_read ({ frames := 9, cells := 1, slots := 6, locals := 155 }) [.ref (g 9), .int x, .int y, .ref qo] D cl5 (tyC k) (wX g k L u f0 tl tp qo fo) (wX g k L u f0 tl tp qo fo1) k9 ∧ MuL l y_Mod_read w_Mod_read ({ frames := 2, cells := 0, slots := 0, locals := 47 }) [.ref (g 20), .int x, .int y] D cl5 (tyC k) (wM g k L r) (wM g k L r1) b9 ∧ rTh r1 = k9 ∧ (k9 = 0 → fo1 0 = b9) ∧ Ivt L u tl tp r1 := by
  rcases ix64 x with h | ⟨i, hi, rfl⟩
  · exact ⟨fo, qTh r (nI 1), nI 1, 0, h_read_x l htr D g k L hL0 hL u f0 tl tp qo fo x y h, c_Mod_read_b l D g k L hL0 hL r I.B x y (by rw [bad64 h]; rfl), rfl, fun q => absurd q one_ne, ivt_th hL0 I _⟩
  · have hs := I.W.1.sz hL hi
    have eS : iS L (dNow u) i = rNd r (20 * i + 1) := R_S I.1 hL0 hL hi (by omega)
    by_cases hb : y < 0 ∨ nI (rNd r (20 * i + 1)) ≤ y
    · refine ⟨fo, qTh r (nI 2), nI 2, 0, h_read_y l htr D g k L hL0 hL u f0 tl tp qo fo i y hi (by rw [eS]; exact hb), c_Mod_read_c l D g k L hL0 hL r I.B i y hi (Or.inr ?_), rfl, fun q => absurd q two_ne, ivt_th hL0 I _⟩
      unfold inR
      rw [decide_eq_false_iff_not]
      rintro ⟨q1, q2⟩
      rcases hb with z | z
      · rw [nI_0] at q1; exact Int32.not_lt.mpr q1 z
      · rcases Nat.eq_zero_or_pos (rNd r (20 * i + 1)) with e | e
        · rw [e] at q2
          exact absurd (Int32.le_trans q1 q2) (by decide)
        · rw [pk_sub e] at q2
          exact nI_ge (a := rNd r (20 * i + 1) - 1) (b := rNd r (20 * i + 1)) (by omega) (by omega) (Int32.le_trans z q2)
    · have h0 : ¬ y < 0 := fun q => hb (Or.inl q)
      obtain ⟨t, ht, rfl⟩ := nI_of h0
      have htl : t < rNd r (20 * i + 1) := by
        rcases Nat.lt_or_ge t (rNd r (20 * i + 1)) with q | q
        · exact q
        · exact absurd (Or.inr (nI_le q (by omega))) hb
      have hk0 : rNd r (20 * i) ≠ 0 := fun z => by have := (I.W.1.2.1 i hi).2.2.1 z; omega
      exact ⟨va_up fo 0 (rdG L (dNow u) i t 8), qTh r (nI 0), nI 0, rlR r i t, h_read l htr D g k L hL0 hL u f0 tl tp qo fo i t hi (by rw [eS]; exact htl), c_Mod_read l D g k L hL0 hL r I.B i t hi hk0 htl I.X (wf_G I.W.1.1.1 hL) (fun j hj => I.W.1.bs hj), rfl, fun _ => by rw [va_up_self, y_read hL0 hL I hi htl], ivt_th hL0 I _⟩
end ST
