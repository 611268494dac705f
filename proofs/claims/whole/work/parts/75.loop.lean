/-! THE LAW'S LOOP. -/
set_option maxHeartbeats 4000000 in
set_option maxRecDepth 100000 in
theorem st_feed {p : Program} {l : Launch} {e : Env} {s : State} {m : MethodId} {below : List Frame} {meth : Method} {c : Code} {b Ls : Nat} {xs : Nat → Int32} {Q : State → Prop} {D : va_G} {g : Nat → Nat} {k : Nat → ClassId} {L qo : Nat} {i cells slots : Nat} {u : DSt} {f0 : Nat → Int32} {tl : Nat} {tp : Nat → Int32} {fo : Nat → Int64} {r : RSt}
    (C0 : lw_At p s m meth c b Ls xs) (hLs : Ls ≤ 2561) (htr : l.stackTraces = false) (hXp : xP (fun q => s.heap.size ≤ q) s s.heap) (hK : va_K D cl5 (tyC k) s) (hL0 : 96 ≤ L) (hL : L ≤ 768) (I : Ivt L u tl tp r) (hi : i + 5 ≤ Ls) (hc1 : cells + 1 ≤ 601024) (hs1 : slots + 6 ≤ 7293000)
    (kk : ∀ (u1 : DSt) (f1 : Nat → Int32) (tl1 : Nat) (tp1 : Nat → Int32) (fo1 : Nat → Int64) (r1 : RSt), Ivt L u1 tl1 tp1 r1 → ∀ (H : Heap) (locs : List Loc) (ls : Array Slot), va_P D cl5 (wL g k L u1 f1 tl1 tp1 qo fo1 r1) H → va_D (fun q => s.heap.size ≤ q) (wL g k L u1 f1 tl1 tp1 qo fo1 r1) → va_S (fun q => s.heap.size ≤ q) s.heap H locs → lv_has ls 8 [(0, .ref b), (1, .ref (g 9)), (2, .ref (g 20)), (3, .ref qo), (4, .int (nI i))] → W p l e room_1 s m #[Value.ref b] below meth c H locs (cells + 1) (slots + 6) Q (F0 m 1049 ls []))
    (H : Heap) (locs : List Loc) (ls : Array Slot) (hP : va_P D cl5 (wL g k L u f0 tl tp qo fo r) H) (hD : va_D (fun q => s.heap.size ≤ q) (wL g k L u f0 tl tp qo fo r)) (hS : va_S (fun q => s.heap.size ≤ q) s.heap H locs) (hl : lv_has ls 8 [(0, .ref b), (1, .ref (g 9)), (2, .ref (g 20)), (3, .ref qo), (4, .int (nI i))]) : W p l e room_1 s m #[Value.ref b] below meth c H locs cells slots Q (F0 m 120 ls []) := by
  obtain ⟨u1, f1, tl1, tp1, fo1, r1, k9, b9, m1, m2, hk, hbv, I1⟩ := s_feed (l := l) (D := D) (g := g) (k := k) (f0 := f0) (qo := qo) (fo := fo) htr hL0 hL I (xs (i + 1)) ((((xs (i + 2)).toInt64) <<< ((nI 32).toInt64 &&& 63)) ||| ((xs (i + 3)).toInt64 &&& 4294967295))
  exact lw_feed C0 hLs hXp hK hL0 hL hi hc1 hs1 I1.B m1 m2 hk hbv (kk u1 f1 tl1 tp1 fo1 r1 I1) H locs ls hP hD hS hl
set_option maxHeartbeats 4000000 in
set_option maxRecDepth 100000 in
theorem st_make {p : Program} {l : Launch} {e : Env} {s : State} {m : MethodId} {below : List Frame} {meth : Method} {c : Code} {b Ls : Nat} {xs : Nat → Int32} {Q : State → Prop} {D : va_G} {g : Nat → Nat} {k : Nat → ClassId} {L qo : Nat} {i cells slots : Nat} {u : DSt} {f0 : Nat → Int32} {tl : Nat} {tp : Nat → Int32} {fo : Nat → Int64} {r : RSt}
    (C0 : lw_At p s m meth c b Ls xs) (hLs : Ls ≤ 2561) (htr : l.stackTraces = false) (hXp : xP (fun q => s.heap.size ≤ q) s s.heap) (hK : va_K D cl5 (tyC k) s) (hL0 : 96 ≤ L) (hL : L ≤ 768) (I : Ivt L u tl tp r) (hi : i + 5 ≤ Ls) (hc1 : cells + 1 ≤ 601024) (hs1 : slots + 6 ≤ 7293000)
    (kk : ∀ (u1 : DSt) (f1 : Nat → Int32) (tl1 : Nat) (tp1 : Nat → Int32) (fo1 : Nat → Int64) (r1 : RSt), Ivt L u1 tl1 tp1 r1 → ∀ (H : Heap) (locs : List Loc) (ls : Array Slot), va_P D cl5 (wL g k L u1 f1 tl1 tp1 qo fo1 r1) H → va_D (fun q => s.heap.size ≤ q) (wL g k L u1 f1 tl1 tp1 qo fo1 r1) → va_S (fun q => s.heap.size ≤ q) s.heap H locs → lv_has ls 8 [(0, .ref b), (1, .ref (g 9)), (2, .ref (g 20)), (3, .ref qo), (4, .int (nI i))] → W p l e room_1 s m #[Value.ref b] below meth c H locs (cells + 1) (slots + 6) Q (F0 m 1049 ls []))
    (H : Heap) (locs : List Loc) (ls : Array Slot) (hP : va_P D cl5 (wL g k L u f0 tl tp qo fo r) H) (hD : va_D (fun q => s.heap.size ≤ q) (wL g k L u f0 tl tp qo fo r)) (hS : va_S (fun q => s.heap.size ≤ q) s.heap H locs) (hl : lv_has ls 8 [(0, .ref b), (1, .ref (g 9)), (2, .ref (g 20)), (3, .ref qo), (4, .int (nI i))]) : W p l e room_1 s m #[Value.ref b] below meth c H locs cells slots Q (F0 m 220 ls []) := by
  by_cases hz : xs (i + 3) = 0
  · obtain ⟨u1, f1, tl1, tp1, fo1, r1, k9, b9, m1, m2, hk, hbv, I1⟩ := s_make (l := l) (D := D) (g := g) (k := k) (f0 := f0) (qo := qo) (fo := fo) htr hL0 hL I (xs (i + 1)) (xs (i + 2)) false
    exact lw_make_0 C0 hLs hXp hK hL0 hL hi hc1 hs1 I1.B hz m1 m2 hk hbv (kk u1 f1 tl1 tp1 fo1 r1 I1) H locs ls hP hD hS hl
  · obtain ⟨u1, f1, tl1, tp1, fo1, r1, k9, b9, m1, m2, hk, hbv, I1⟩ := s_make (l := l) (D := D) (g := g) (k := k) (f0 := f0) (qo := qo) (fo := fo) htr hL0 hL I (xs (i + 1)) (xs (i + 2)) true
    exact lw_make_1 C0 hLs hXp hK hL0 hL hi hc1 hs1 I1.B hz m1 m2 hk hbv (kk u1 f1 tl1 tp1 fo1 r1 I1) H locs ls hP hD hS hl
set_option maxHeartbeats 4000000 in
set_option maxRecDepth 100000 in
theorem st_find {p : Program} {l : Launch} {e : Env} {s : State} {m : MethodId} {below : List Frame} {meth : Method} {c : Code} {b Ls : Nat} {xs : Nat → Int32} {Q : State → Prop} {D : va_G} {g : Nat → Nat} {k : Nat → ClassId} {L qo : Nat} {i cells slots : Nat} {u : DSt} {f0 : Nat → Int32} {tl : Nat} {tp : Nat → Int32} {fo : Nat → Int64} {r : RSt}
    (C0 : lw_At p s m meth c b Ls xs) (hLs : Ls ≤ 2561) (htr : l.stackTraces = false) (hXp : xP (fun q => s.heap.size ≤ q) s s.heap) (hK : va_K D cl5 (tyC k) s) (hL0 : 96 ≤ L) (hL : L ≤ 768) (I : Ivt L u tl tp r) (hi : i + 5 ≤ Ls) (hc1 : cells + 1 ≤ 601024) (hs1 : slots + 6 ≤ 7293000)
    (kk : ∀ (u1 : DSt) (f1 : Nat → Int32) (tl1 : Nat) (tp1 : Nat → Int32) (fo1 : Nat → Int64) (r1 : RSt), Ivt L u1 tl1 tp1 r1 → ∀ (H : Heap) (locs : List Loc) (ls : Array Slot), va_P D cl5 (wL g k L u1 f1 tl1 tp1 qo fo1 r1) H → va_D (fun q => s.heap.size ≤ q) (wL g k L u1 f1 tl1 tp1 qo fo1 r1) → va_S (fun q => s.heap.size ≤ q) s.heap H locs → lv_has ls 8 [(0, .ref b), (1, .ref (g 9)), (2, .ref (g 20)), (3, .ref qo), (4, .int (nI i))] → W p l e room_1 s m #[Value.ref b] below meth c H locs (cells + 1) (slots + 6) Q (F0 m 1049 ls []))
    (H : Heap) (locs : List Loc) (ls : Array Slot) (hP : va_P D cl5 (wL g k L u f0 tl tp qo fo r) H) (hD : va_D (fun q => s.heap.size ≤ q) (wL g k L u f0 tl tp qo fo r)) (hS : va_S (fun q => s.heap.size ≤ q) s.heap H locs) (hl : lv_has ls 8 [(0, .ref b), (1, .ref (g 9)), (2, .ref (g 20)), (3, .ref qo), (4, .int (nI i))]) : W p l e room_1 s m #[Value.ref b] below meth c H locs cells slots Q (F0 m 316 ls []) := by
  obtain ⟨u1, f1, tl1, tp1, fo1, r1, k9, b9, m1, m2, hk, hbv, I1⟩ := s_find (l := l) (D := D) (g := g) (k := k) (f0 := f0) (qo := qo) (fo := fo) htr hL0 hL I (xs (i + 1)) (xs (i + 2))
  exact lw_find C0 hLs hXp hK hL0 hL hi hc1 hs1 I1.B m1 m2 hk hbv (kk u1 f1 tl1 tp1 fo1 r1 I1) H locs ls hP hD hS hl
set_option maxHeartbeats 4000000 in
set_option maxRecDepth 100000 in
theorem st_write {p : Program} {l : Launch} {e : Env} {s : State} {m : MethodId} {below : List Frame} {meth : Method} {c : Code} {b Ls : Nat} {xs : Nat → Int32} {Q : State → Prop} {D : va_G} {g : Nat → Nat} {k : Nat → ClassId} {L qo : Nat} {i cells slots : Nat} {u : DSt} {f0 : Nat → Int32} {tl : Nat} {tp : Nat → Int32} {fo : Nat → Int64} {r : RSt}
    (C0 : lw_At p s m meth c b Ls xs) (hLs : Ls ≤ 2561) (htr : l.stackTraces = false) (hXp : xP (fun q => s.heap.size ≤ q) s s.heap) (hK : va_K D cl5 (tyC k) s) (hL0 : 96 ≤ L) (hL : L ≤ 768) (I : Ivt L u tl tp r) (hi : i + 5 ≤ Ls) (hc1 : cells + 1 ≤ 601024) (hs1 : slots + 6 ≤ 7293000)
    (kk : ∀ (u1 : DSt) (f1 : Nat → Int32) (tl1 : Nat) (tp1 : Nat → Int32) (fo1 : Nat → Int64) (r1 : RSt), Ivt L u1 tl1 tp1 r1 → ∀ (H : Heap) (locs : List Loc) (ls : Array Slot), va_P D cl5 (wL g k L u1 f1 tl1 tp1 qo fo1 r1) H → va_D (fun q => s.heap.size ≤ q) (wL g k L u1 f1 tl1 tp1 qo fo1 r1) → va_S (fun q => s.heap.size ≤ q) s.heap H locs → lv_has ls 8 [(0, .ref b), (1, .ref (g 9)), (2, .ref (g 20)), (3, .ref qo), (4, .int (nI i))] → W p l e room_1 s m #[Value.ref b] below meth c H locs (cells + 1) (slots + 6) Q (F0 m 1049 ls []))
    (H : Heap) (locs : List Loc) (ls : Array Slot) (hP : va_P D cl5 (wL g k L u f0 tl tp qo fo r) H) (hD : va_D (fun q => s.heap.size ≤ q) (wL g k L u f0 tl tp qo fo r)) (hS : va_S (fun q => s.heap.size ≤ q) s.heap H locs) (hl : lv_has ls 8 [(0, .ref b), (1, .ref (g 9)), (2, .ref (g 20)), (3, .ref qo), (4, .int (nI i))]) : W p l e room_1 s m #[Value.ref b] below meth c H locs cells slots Q (F0 m 384 ls []) := by
  obtain ⟨u1, f1, tl1, tp1, fo1, r1, k9, b9, m1, m2, hk, hbv, I1⟩ := s_write (l := l) (D := D) (g := g) (k := k) (f0 := f0) (qo := qo) (fo := fo) htr hL0 hL I (xs (i + 1)) (xs (i + 2))
  exact lw_write C0 hLs hXp hK hL0 hL hi hc1 hs1 I1.B m1 m2 hk hbv (kk u1 f1 tl1 tp1 fo1 r1 I1) H locs ls hP hD hS hl
set_option maxHeartbeats 4000000 in
set_option maxRecDepth 100000 in
theorem st_cut {p : Program} {l : Launch} {e : Env} {s : State} {m : MethodId} {below : List Frame} {meth : Method} {c : Code} {b Ls : Nat} {xs : Nat → Int32} {Q : State → Prop} {D : va_G} {g : Nat → Nat} {k : Nat → ClassId} {L qo : Nat} {i cells slots : Nat} {u : DSt} {f0 : Nat → Int32} {tl : Nat} {tp : Nat → Int32} {fo : Nat → Int64} {r : RSt}
    (C0 : lw_At p s m meth c b Ls xs) (hLs : Ls ≤ 2561) (htr : l.stackTraces = false) (hXp : xP (fun q => s.heap.size ≤ q) s s.heap) (hK : va_K D cl5 (tyC k) s) (hL0 : 96 ≤ L) (hL : L ≤ 768) (I : Ivt L u tl tp r) (hi : i + 5 ≤ Ls) (hc1 : cells + 1 ≤ 601024) (hs1 : slots + 6 ≤ 7293000)
    (kk : ∀ (u1 : DSt) (f1 : Nat → Int32) (tl1 : Nat) (tp1 : Nat → Int32) (fo1 : Nat → Int64) (r1 : RSt), Ivt L u1 tl1 tp1 r1 → ∀ (H : Heap) (locs : List Loc) (ls : Array Slot), va_P D cl5 (wL g k L u1 f1 tl1 tp1 qo fo1 r1) H → va_D (fun q => s.heap.size ≤ q) (wL g k L u1 f1 tl1 tp1 qo fo1 r1) → va_S (fun q => s.heap.size ≤ q) s.heap H locs → lv_has ls 8 [(0, .ref b), (1, .ref (g 9)), (2, .ref (g 20)), (3, .ref qo), (4, .int (nI i))] → W p l e room_1 s m #[Value.ref b] below meth c H locs (cells + 1) (slots + 6) Q (F0 m 1049 ls []))
    (H : Heap) (locs : List Loc) (ls : Array Slot) (hP : va_P D cl5 (wL g k L u f0 tl tp qo fo r) H) (hD : va_D (fun q => s.heap.size ≤ q) (wL g k L u f0 tl tp qo fo r)) (hS : va_S (fun q => s.heap.size ≤ q) s.heap H locs) (hl : lv_has ls 8 [(0, .ref b), (1, .ref (g 9)), (2, .ref (g 20)), (3, .ref qo), (4, .int (nI i))]) : W p l e room_1 s m #[Value.ref b] below meth c H locs cells slots Q (F0 m 452 ls []) := by
  obtain ⟨u1, f1, tl1, tp1, fo1, r1, k9, b9, m1, m2, hk, hbv, I1⟩ := s_cut (l := l) (D := D) (g := g) (k := k) (f0 := f0) (qo := qo) (fo := fo) htr hL0 hL I (xs (i + 1)) (xs (i + 2))
  exact lw_cut C0 hLs hXp hK hL0 hL hi hc1 hs1 I1.B m1 m2 hk hbv (kk u1 f1 tl1 tp1 fo1 r1 I1) H locs ls hP hD hS hl
set_option maxHeartbeats 4000000 in
set_option maxRecDepth 100000 in
theorem st_read {p : Program} {l : Launch} {e : Env} {s : State} {m : MethodId} {below : List Frame} {meth : Method} {c : Code} {b Ls : Nat} {xs : Nat → Int32} {Q : State → Prop} {D : va_G} {g : Nat → Nat} {k : Nat → ClassId} {L qo : Nat} {i cells slots : Nat} {u : DSt} {f0 : Nat → Int32} {tl : Nat} {tp : Nat → Int32} {fo : Nat → Int64} {r : RSt}
    (C0 : lw_At p s m meth c b Ls xs) (hLs : Ls ≤ 2561) (htr : l.stackTraces = false) (hXp : xP (fun q => s.heap.size ≤ q) s s.heap) (hK : va_K D cl5 (tyC k) s) (hL0 : 96 ≤ L) (hL : L ≤ 768) (I : Ivt L u tl tp r) (hi : i + 5 ≤ Ls) (hc1 : cells + 1 ≤ 601024) (hs1 : slots + 6 ≤ 7293000)
    (kk : ∀ (u1 : DSt) (f1 : Nat → Int32) (tl1 : Nat) (tp1 : Nat → Int32) (fo1 : Nat → Int64) (r1 : RSt), Ivt L u1 tl1 tp1 r1 → ∀ (H : Heap) (locs : List Loc) (ls : Array Slot), va_P D cl5 (wL g k L u1 f1 tl1 tp1 qo fo1 r1) H → va_D (fun q => s.heap.size ≤ q) (wL g k L u1 f1 tl1 tp1 qo fo1 r1) → va_S (fun q => s.heap.size ≤ q) s.heap H locs → lv_has ls 8 [(0, .ref b), (1, .ref (g 9)), (2, .ref (g 20)), (3, .ref qo), (4, .int (nI i))] → W p l e room_1 s m #[Value.ref b] below meth c H locs (cells + 1) (slots + 6) Q (F0 m 1049 ls []))
    (H : Heap) (locs : List Loc) (ls : Array Slot) (hP : va_P D cl5 (wL g k L u f0 tl tp qo fo r) H) (hD : va_D (fun q => s.heap.size ≤ q) (wL g k L u f0 tl tp qo fo r)) (hS : va_S (fun q => s.heap.size ≤ q) s.heap H locs) (hl : lv_has ls 8 [(0, .ref b), (1, .ref (g 9)), (2, .ref (g 20)), (3, .ref qo), (4, .int (nI i))]) : W p l e room_1 s m #[Value.ref b] below meth c H locs cells slots Q (F0 m 520 ls []) := by
  obtain ⟨fo1, r1, k9, b9, m1, m2, hk, hbv, I1⟩ := s_read (l := l) (D := D) (g := g) (k := k) (f0 := f0) (qo := qo) (fo := fo) htr hL0 hL I (xs (i + 1)) (xs (i + 2))
  exact lw_read C0 hLs hXp hK hL0 hL hi hc1 hs1 I1.B m1 m2 hk hbv (kk u f0 tl tp fo1 r1 I1) H locs ls hP hD hS hl
set_option maxHeartbeats 4000000 in
set_option maxRecDepth 100000 in
theorem st_move {p : Program} {l : Launch} {e : Env} {s : State} {m : MethodId} {below : List Frame} {meth : Method} {c : Code} {b Ls : Nat} {xs : Nat → Int32} {Q : State → Prop} {D : va_G} {g : Nat → Nat} {k : Nat → ClassId} {L qo : Nat} {i cells slots : Nat} {u : DSt} {f0 : Nat → Int32} {tl : Nat} {tp : Nat → Int32} {fo : Nat → Int64} {r : RSt}
    (C0 : lw_At p s m meth c b Ls xs) (hLs : Ls ≤ 2561) (htr : l.stackTraces = false) (hXp : xP (fun q => s.heap.size ≤ q) s s.heap) (hK : va_K D cl5 (tyC k) s) (hL0 : 96 ≤ L) (hL : L ≤ 768) (I : Ivt L u tl tp r) (hi : i + 5 ≤ Ls) (hc1 : cells + 1 ≤ 601024) (hs1 : slots + 6 ≤ 7293000)
    (kk : ∀ (u1 : DSt) (f1 : Nat → Int32) (tl1 : Nat) (tp1 : Nat → Int32) (fo1 : Nat → Int64) (r1 : RSt), Ivt L u1 tl1 tp1 r1 → ∀ (H : Heap) (locs : List Loc) (ls : Array Slot), va_P D cl5 (wL g k L u1 f1 tl1 tp1 qo fo1 r1) H → va_D (fun q => s.heap.size ≤ q) (wL g k L u1 f1 tl1 tp1 qo fo1 r1) → va_S (fun q => s.heap.size ≤ q) s.heap H locs → lv_has ls 8 [(0, .ref b), (1, .ref (g 9)), (2, .ref (g 20)), (3, .ref qo), (4, .int (nI i))] → W p l e room_1 s m #[Value.ref b] below meth c H locs (cells + 1) (slots + 6) Q (F0 m 1049 ls []))
    (H : Heap) (locs : List Loc) (ls : Array Slot) (hP : va_P D cl5 (wL g k L u f0 tl tp qo fo r) H) (hD : va_D (fun q => s.heap.size ≤ q) (wL g k L u f0 tl tp qo fo r)) (hS : va_S (fun q => s.heap.size ≤ q) s.heap H locs) (hl : lv_has ls 8 [(0, .ref b), (1, .ref (g 9)), (2, .ref (g 20)), (3, .ref qo), (4, .int (nI i))]) : W p l e room_1 s m #[Value.ref b] below meth c H locs cells slots Q (F0 m 587 ls []) := by
  obtain ⟨u1, f1, tl1, tp1, fo1, r1, k9, b9, m1, m2, hk, hbv, I1⟩ := s_move (l := l) (D := D) (g := g) (k := k) (f0 := f0) (qo := qo) (fo := fo) htr hL0 hL I (xs (i + 1)) (xs (i + 2)) (xs (i + 3)) (xs (i + 4))
  exact lw_move C0 hLs hXp hK hL0 hL hi hc1 hs1 I1.B m1 m2 hk hbv (kk u1 f1 tl1 tp1 fo1 r1 I1) H locs ls hP hD hS hl
set_option maxHeartbeats 4000000 in
set_option maxRecDepth 100000 in
theorem st_remove {p : Program} {l : Launch} {e : Env} {s : State} {m : MethodId} {below : List Frame} {meth : Method} {c : Code} {b Ls : Nat} {xs : Nat → Int32} {Q : State → Prop} {D : va_G} {g : Nat → Nat} {k : Nat → ClassId} {L qo : Nat} {i cells slots : Nat} {u : DSt} {f0 : Nat → Int32} {tl : Nat} {tp : Nat → Int32} {fo : Nat → Int64} {r : RSt}
    (C0 : lw_At p s m meth c b Ls xs) (hLs : Ls ≤ 2561) (htr : l.stackTraces = false) (hXp : xP (fun q => s.heap.size ≤ q) s s.heap) (hK : va_K D cl5 (tyC k) s) (hL0 : 96 ≤ L) (hL : L ≤ 768) (I : Ivt L u tl tp r) (hi : i + 5 ≤ Ls) (hc1 : cells + 1 ≤ 601024) (hs1 : slots + 6 ≤ 7293000)
    (kk : ∀ (u1 : DSt) (f1 : Nat → Int32) (tl1 : Nat) (tp1 : Nat → Int32) (fo1 : Nat → Int64) (r1 : RSt), Ivt L u1 tl1 tp1 r1 → ∀ (H : Heap) (locs : List Loc) (ls : Array Slot), va_P D cl5 (wL g k L u1 f1 tl1 tp1 qo fo1 r1) H → va_D (fun q => s.heap.size ≤ q) (wL g k L u1 f1 tl1 tp1 qo fo1 r1) → va_S (fun q => s.heap.size ≤ q) s.heap H locs → lv_has ls 8 [(0, .ref b), (1, .ref (g 9)), (2, .ref (g 20)), (3, .ref qo), (4, .int (nI i))] → W p l e room_1 s m #[Value.ref b] below meth c H locs (cells + 1) (slots + 6) Q (F0 m 1049 ls []))
    (H : Heap) (locs : List Loc) (ls : Array Slot) (hP : va_P D cl5 (wL g k L u f0 tl tp qo fo r) H) (hD : va_D (fun q => s.heap.size ≤ q) (wL g k L u f0 tl tp qo fo r)) (hS : va_S (fun q => s.heap.size ≤ q) s.heap H locs) (hl : lv_has ls 8 [(0, .ref b), (1, .ref (g 9)), (2, .ref (g 20)), (3, .ref qo), (4, .int (nI i))]) : W p l e room_1 s m #[Value.ref b] below meth c H locs cells slots Q (F0 m 679 ls []) := by
  obtain ⟨u1, f1, tl1, tp1, fo1, r1, k9, b9, m1, m2, hk, hbv, I1⟩ := s_remove (l := l) (D := D) (g := g) (k := k) (f0 := f0) (qo := qo) (fo := fo) htr hL0 hL I (xs (i + 1)) (xs (i + 2))
  exact lw_remove C0 hLs hXp hK hL0 hL hi hc1 hs1 I1.B m1 m2 hk hbv (kk u1 f1 tl1 tp1 fo1 r1 I1) H locs ls hP hD hS hl
set_option maxHeartbeats 4000000 in
set_option maxRecDepth 100000 in
theorem st_commit {p : Program} {l : Launch} {e : Env} {s : State} {m : MethodId} {below : List Frame} {meth : Method} {c : Code} {b Ls : Nat} {xs : Nat → Int32} {Q : State → Prop} {D : va_G} {g : Nat → Nat} {k : Nat → ClassId} {L qo : Nat} {i cells slots : Nat} {u : DSt} {f0 : Nat → Int32} {tl : Nat} {tp : Nat → Int32} {fo : Nat → Int64} {r : RSt}
    (C0 : lw_At p s m meth c b Ls xs) (hLs : Ls ≤ 2561) (htr : l.stackTraces = false) (hXp : xP (fun q => s.heap.size ≤ q) s s.heap) (hK : va_K D cl5 (tyC k) s) (hL0 : 96 ≤ L) (hL : L ≤ 768) (I : Ivt L u tl tp r) (hi : i + 5 ≤ Ls) (hc1 : cells + 1 ≤ 601024) (hs1 : slots + 6 ≤ 7293000)
    (kk : ∀ (u1 : DSt) (f1 : Nat → Int32) (tl1 : Nat) (tp1 : Nat → Int32) (fo1 : Nat → Int64) (r1 : RSt), Ivt L u1 tl1 tp1 r1 → ∀ (H : Heap) (locs : List Loc) (ls : Array Slot), va_P D cl5 (wL g k L u1 f1 tl1 tp1 qo fo1 r1) H → va_D (fun q => s.heap.size ≤ q) (wL g k L u1 f1 tl1 tp1 qo fo1 r1) → va_S (fun q => s.heap.size ≤ q) s.heap H locs → lv_has ls 8 [(0, .ref b), (1, .ref (g 9)), (2, .ref (g 20)), (3, .ref qo), (4, .int (nI i))] → W p l e room_1 s m #[Value.ref b] below meth c H locs (cells + 1) (slots + 6) Q (F0 m 1049 ls []))
    (H : Heap) (locs : List Loc) (ls : Array Slot) (hP : va_P D cl5 (wL g k L u f0 tl tp qo fo r) H) (hD : va_D (fun q => s.heap.size ≤ q) (wL g k L u f0 tl tp qo fo r)) (hS : va_S (fun q => s.heap.size ≤ q) s.heap H locs) (hl : lv_has ls 8 [(0, .ref b), (1, .ref (g 9)), (2, .ref (g 20)), (3, .ref qo), (4, .int (nI i))]) : W p l e room_1 s m #[Value.ref b] below meth c H locs cells slots Q (F0 m 747 ls []) := by
  have I' := ivt_th hL0 I (nI 0)
  have I1 := (x_commit hL0 hL I').1
  have e1 : nI (dct L (dDif u)) = nI (chR L (qTh r (nI 0))) := by rw [(x_commit hL0 hL I').2]
  exact lw_commit C0 hLs hXp hK hL0 hL hi hc1 hs1 I1.B (c_Tree_commit l D g k L hL0 hL u f0 tl tp) (c_Mod_commit l D g k L hL0 hL r I.B I.X) e1 (fun H locs ls hP hD hS hl => W.widen (k := cells + 1) (n := slots + 6) (by omega) (by omega) (kk _ _ _ _ _ _ I1 H locs ls hP hD hS hl)) H locs ls hP hD hS hl
set_option maxHeartbeats 4000000 in
set_option maxRecDepth 100000 in
theorem st_drop {p : Program} {l : Launch} {e : Env} {s : State} {m : MethodId} {below : List Frame} {meth : Method} {c : Code} {b Ls : Nat} {xs : Nat → Int32} {Q : State → Prop} {D : va_G} {g : Nat → Nat} {k : Nat → ClassId} {L qo : Nat} {i cells slots : Nat} {u : DSt} {f0 : Nat → Int32} {tl : Nat} {tp : Nat → Int32} {fo : Nat → Int64} {r : RSt}
    (C0 : lw_At p s m meth c b Ls xs) (hLs : Ls ≤ 2561) (htr : l.stackTraces = false) (hXp : xP (fun q => s.heap.size ≤ q) s s.heap) (hK : va_K D cl5 (tyC k) s) (hL0 : 96 ≤ L) (hL : L ≤ 768) (I : Ivt L u tl tp r) (hi : i + 5 ≤ Ls) (hc1 : cells + 1 ≤ 601024) (hs1 : slots + 6 ≤ 7293000)
    (kk : ∀ (u1 : DSt) (f1 : Nat → Int32) (tl1 : Nat) (tp1 : Nat → Int32) (fo1 : Nat → Int64) (r1 : RSt), Ivt L u1 tl1 tp1 r1 → ∀ (H : Heap) (locs : List Loc) (ls : Array Slot), va_P D cl5 (wL g k L u1 f1 tl1 tp1 qo fo1 r1) H → va_D (fun q => s.heap.size ≤ q) (wL g k L u1 f1 tl1 tp1 qo fo1 r1) → va_S (fun q => s.heap.size ≤ q) s.heap H locs → lv_has ls 8 [(0, .ref b), (1, .ref (g 9)), (2, .ref (g 20)), (3, .ref qo), (4, .int (nI i))] → W p l e room_1 s m #[Value.ref b] below meth c H locs (cells + 1) (slots + 6) Q (F0 m 1049 ls []))
    (H : Heap) (locs : List Loc) (ls : Array Slot) (hP : va_P D cl5 (wL g k L u f0 tl tp qo fo r) H) (hD : va_D (fun q => s.heap.size ≤ q) (wL g k L u f0 tl tp qo fo r)) (hS : va_S (fun q => s.heap.size ≤ q) s.heap H locs) (hl : lv_has ls 8 [(0, .ref b), (1, .ref (g 9)), (2, .ref (g 20)), (3, .ref qo), (4, .int (nI i))]) : W p l e room_1 s m #[Value.ref b] below meth c H locs cells slots Q (F0 m 760 ls []) := by
  have I' := ivt_th hL0 I (nI 0)
  have I1 := x_drop hL0 hL I'
  have e1 : nI (dct L (dDif u)) = nI (chR L (qTh r (nI 0))) := by rw [(x_commit hL0 hL I').2]
  exact lw_drop C0 hLs hXp hK hL0 hL hi hc1 hs1 I1.B (c_Tree_drop l D g k L hL0 hL u f0 tl tp) (c_Mod_drop l D g k L hL0 hL r I.B I.X) e1 (fun H locs ls hP hD hS hl => W.widen (k := cells + 1) (n := slots + 6) (by omega) (by omega) (kk _ _ _ _ _ _ I1 H locs ls hP hD hS hl)) H locs ls hP hD hS hl
set_option maxHeartbeats 4000000 in
set_option maxRecDepth 100000 in
theorem st_node {p : Program} {l : Launch} {e : Env} {s : State} {m : MethodId} {below : List Frame} {meth : Method} {c : Code} {b Ls : Nat} {xs : Nat → Int32} {Q : State → Prop} {D : va_G} {g : Nat → Nat} {k : Nat → ClassId} {L qo : Nat} {i cells slots : Nat} {u : DSt} {f0 : Nat → Int32} {tl : Nat} {tp : Nat → Int32} {fo : Nat → Int64} {r : RSt}
    (C0 : lw_At p s m meth c b Ls xs) (hLs : Ls ≤ 2561) (htr : l.stackTraces = false) (hXp : xP (fun q => s.heap.size ≤ q) s s.heap) (hK : va_K D cl5 (tyC k) s) (hL0 : 96 ≤ L) (hL : L ≤ 768) (I : Ivt L u tl tp r) (hi : i + 5 ≤ Ls) (hc1 : cells + 1 ≤ 601024) (hs1 : slots + 6 ≤ 7293000)
    (kk : ∀ (u1 : DSt) (f1 : Nat → Int32) (tl1 : Nat) (tp1 : Nat → Int32) (fo1 : Nat → Int64) (r1 : RSt), Ivt L u1 tl1 tp1 r1 → ∀ (H : Heap) (locs : List Loc) (ls : Array Slot), va_P D cl5 (wL g k L u1 f1 tl1 tp1 qo fo1 r1) H → va_D (fun q => s.heap.size ≤ q) (wL g k L u1 f1 tl1 tp1 qo fo1 r1) → va_S (fun q => s.heap.size ≤ q) s.heap H locs → lv_has ls 8 [(0, .ref b), (1, .ref (g 9)), (2, .ref (g 20)), (3, .ref qo), (4, .int (nI i))] → W p l e room_1 s m #[Value.ref b] below meth c H locs (cells + 1) (slots + 6) Q (F0 m 1049 ls []))
    (H : Heap) (locs : List Loc) (ls : Array Slot) (hP : va_P D cl5 (wL g k L u f0 tl tp qo fo r) H) (hD : va_D (fun q => s.heap.size ≤ q) (wL g k L u f0 tl tp qo fo r)) (hS : va_S (fun q => s.heap.size ≤ q) s.heap H locs) (hl : lv_has ls 8 [(0, .ref b), (1, .ref (g 9)), (2, .ref (g 20)), (3, .ref qo), (4, .int (nI i))]) : W p l e room_1 s m #[Value.ref b] below meth c H locs cells slots Q (F0 m 773 ls []) := by
  obtain ⟨u1, f1, tl1, tp1, fo1, r1, k9, b9, m1, m2, hk, hbv, I1⟩ := s_node (l := l) (D := D) (g := g) (k := k) (f0 := f0) (qo := qo) (fo := fo) htr hL0 hL I (xs (i + 1)) (xs (i + 2))
  exact lw_node C0 hLs hXp hK hL0 hL hi hc1 hs1 I1.B m1 m2 hk hbv (kk u1 f1 tl1 tp1 fo1 r1 I1) H locs ls hP hD hS hl
set_option maxHeartbeats 4000000 in
set_option maxRecDepth 100000 in
theorem st_at {p : Program} {l : Launch} {e : Env} {s : State} {m : MethodId} {below : List Frame} {meth : Method} {c : Code} {b Ls : Nat} {xs : Nat → Int32} {Q : State → Prop} {D : va_G} {g : Nat → Nat} {k : Nat → ClassId} {L qo : Nat} {i cells slots : Nat} {u : DSt} {f0 : Nat → Int32} {tl : Nat} {tp : Nat → Int32} {fo : Nat → Int64} {r : RSt}
    (C0 : lw_At p s m meth c b Ls xs) (hLs : Ls ≤ 2561) (htr : l.stackTraces = false) (hXp : xP (fun q => s.heap.size ≤ q) s s.heap) (hK : va_K D cl5 (tyC k) s) (hL0 : 96 ≤ L) (hL : L ≤ 768) (I : Ivt L u tl tp r) (hi : i + 5 ≤ Ls) (hc1 : cells + 1 ≤ 601024) (hs1 : slots + 6 ≤ 7293000)
    (kk : ∀ (u1 : DSt) (f1 : Nat → Int32) (tl1 : Nat) (tp1 : Nat → Int32) (fo1 : Nat → Int64) (r1 : RSt), Ivt L u1 tl1 tp1 r1 → ∀ (H : Heap) (locs : List Loc) (ls : Array Slot), va_P D cl5 (wL g k L u1 f1 tl1 tp1 qo fo1 r1) H → va_D (fun q => s.heap.size ≤ q) (wL g k L u1 f1 tl1 tp1 qo fo1 r1) → va_S (fun q => s.heap.size ≤ q) s.heap H locs → lv_has ls 8 [(0, .ref b), (1, .ref (g 9)), (2, .ref (g 20)), (3, .ref qo), (4, .int (nI i))] → W p l e room_1 s m #[Value.ref b] below meth c H locs (cells + 1) (slots + 6) Q (F0 m 1049 ls []))
    (H : Heap) (locs : List Loc) (ls : Array Slot) (hP : va_P D cl5 (wL g k L u f0 tl tp qo fo r) H) (hD : va_D (fun q => s.heap.size ≤ q) (wL g k L u f0 tl tp qo fo r)) (hS : va_S (fun q => s.heap.size ≤ q) s.heap H locs) (hl : lv_has ls 8 [(0, .ref b), (1, .ref (g 9)), (2, .ref (g 20)), (3, .ref qo), (4, .int (nI i))]) : W p l e room_1 s m #[Value.ref b] below meth c H locs cells slots Q (F0 m 841 ls []) := by
  by_cases hz : xs (i + 3) = 0
  · obtain ⟨u1, f1, tl1, tp1, fo1, r1, k9, b9, m1, m2, hk, hbv, I1⟩ := s_at (l := l) (D := D) (g := g) (k := k) (f0 := f0) (qo := qo) (fo := fo) htr hL0 hL I (xs (i + 1)) (xs (i + 2)) false
    exact lw_at_0 C0 hLs hXp hK hL0 hL hi hc1 hs1 I1.B hz m1 m2 hk hbv (kk u1 f1 tl1 tp1 fo1 r1 I1) H locs ls hP hD hS hl
  · obtain ⟨u1, f1, tl1, tp1, fo1, r1, k9, b9, m1, m2, hk, hbv, I1⟩ := s_at (l := l) (D := D) (g := g) (k := k) (f0 := f0) (qo := qo) (fo := fo) htr hL0 hL I (xs (i + 1)) (xs (i + 2)) true
    exact lw_at_1 C0 hLs hXp hK hL0 hL hi hc1 hs1 I1.B hz m1 m2 hk hbv (kk u1 f1 tl1 tp1 fo1 r1 I1) H locs ls hP hD hS hl
set_option maxHeartbeats 4000000 in
set_option maxRecDepth 100000 in
theorem st_changed {p : Program} {l : Launch} {e : Env} {s : State} {m : MethodId} {below : List Frame} {meth : Method} {c : Code} {b Ls : Nat} {xs : Nat → Int32} {Q : State → Prop} {D : va_G} {g : Nat → Nat} {k : Nat → ClassId} {L qo : Nat} {i cells slots : Nat} {u : DSt} {f0 : Nat → Int32} {tl : Nat} {tp : Nat → Int32} {fo : Nat → Int64} {r : RSt}
    (C0 : lw_At p s m meth c b Ls xs) (hLs : Ls ≤ 2561) (htr : l.stackTraces = false) (hXp : xP (fun q => s.heap.size ≤ q) s s.heap) (hK : va_K D cl5 (tyC k) s) (hL0 : 96 ≤ L) (hL : L ≤ 768) (I : Ivt L u tl tp r) (hi : i + 5 ≤ Ls) (hc1 : cells + 1 ≤ 601024) (hs1 : slots + 6 ≤ 7293000)
    (kk : ∀ (u1 : DSt) (f1 : Nat → Int32) (tl1 : Nat) (tp1 : Nat → Int32) (fo1 : Nat → Int64) (r1 : RSt), Ivt L u1 tl1 tp1 r1 → ∀ (H : Heap) (locs : List Loc) (ls : Array Slot), va_P D cl5 (wL g k L u1 f1 tl1 tp1 qo fo1 r1) H → va_D (fun q => s.heap.size ≤ q) (wL g k L u1 f1 tl1 tp1 qo fo1 r1) → va_S (fun q => s.heap.size ≤ q) s.heap H locs → lv_has ls 8 [(0, .ref b), (1, .ref (g 9)), (2, .ref (g 20)), (3, .ref qo), (4, .int (nI i))] → W p l e room_1 s m #[Value.ref b] below meth c H locs (cells + 1) (slots + 6) Q (F0 m 1049 ls []))
    (H : Heap) (locs : List Loc) (ls : Array Slot) (hP : va_P D cl5 (wL g k L u f0 tl tp qo fo r) H) (hD : va_D (fun q => s.heap.size ≤ q) (wL g k L u f0 tl tp qo fo r)) (hS : va_S (fun q => s.heap.size ≤ q) s.heap H locs) (hl : lv_has ls 8 [(0, .ref b), (1, .ref (g 9)), (2, .ref (g 20)), (3, .ref qo), (4, .int (nI i))]) : W p l e room_1 s m #[Value.ref b] below meth c H locs cells slots Q (F0 m 937 ls []) := by
  obtain ⟨u1, f1, tl1, tp1, fo1, r1, k9, b9, m1, m2, hk, hbv, I1⟩ := s_changed (l := l) (D := D) (g := g) (k := k) (f0 := f0) (qo := qo) (fo := fo) htr hL0 hL I (xs (i + 1))
  exact lw_changed C0 hLs hXp hK hL0 hL hi hc1 hs1 I1.B m1 m2 hk hbv (kk u1 f1 tl1 tp1 fo1 r1 I1) H locs ls hP hD hS hl
set_option maxHeartbeats 4000000 in
set_option maxRecDepth 100000 in
theorem st_look {p : Program} {l : Launch} {e : Env} {s : State} {m : MethodId} {below : List Frame} {meth : Method} {c : Code} {b Ls : Nat} {xs : Nat → Int32} {Q : State → Prop} {D : va_G} {g : Nat → Nat} {k : Nat → ClassId} {L qo : Nat} {i cells slots : Nat} {u : DSt} {f0 : Nat → Int32} {tl : Nat} {tp : Nat → Int32} {fo : Nat → Int64} {r : RSt}
    (C0 : lw_At p s m meth c b Ls xs) (hLs : Ls ≤ 2561) (htr : l.stackTraces = false) (hXp : xP (fun q => s.heap.size ≤ q) s s.heap) (hK : va_K D cl5 (tyC k) s) (hL0 : 96 ≤ L) (hL : L ≤ 768) (I : Ivt L u tl tp r) (hi : i + 5 ≤ Ls) (hc1 : cells + 1 ≤ 601024) (hs1 : slots + 6 ≤ 7293000)
    (kk : ∀ (u1 : DSt) (f1 : Nat → Int32) (tl1 : Nat) (tp1 : Nat → Int32) (fo1 : Nat → Int64) (r1 : RSt), Ivt L u1 tl1 tp1 r1 → ∀ (H : Heap) (locs : List Loc) (ls : Array Slot), va_P D cl5 (wL g k L u1 f1 tl1 tp1 qo fo1 r1) H → va_D (fun q => s.heap.size ≤ q) (wL g k L u1 f1 tl1 tp1 qo fo1 r1) → va_S (fun q => s.heap.size ≤ q) s.heap H locs → lv_has ls 8 [(0, .ref b), (1, .ref (g 9)), (2, .ref (g 20)), (3, .ref qo), (4, .int (nI i))] → W p l e room_1 s m #[Value.ref b] below meth c H locs (cells + 1) (slots + 6) Q (F0 m 1049 ls []))
    (H : Heap) (locs : List Loc) (ls : Array Slot) (hP : va_P D cl5 (wL g k L u f0 tl tp qo fo r) H) (hD : va_D (fun q => s.heap.size ≤ q) (wL g k L u f0 tl tp qo fo r)) (hS : va_S (fun q => s.heap.size ≤ q) s.heap H locs) (hl : lv_has ls 8 [(0, .ref b), (1, .ref (g 9)), (2, .ref (g 20)), (3, .ref qo), (4, .int (nI i))]) : W p l e room_1 s m #[Value.ref b] below meth c H locs cells slots Q (F0 m 993 ls []) := by
  obtain ⟨u1, f1, tl1, tp1, fo1, r1, k9, b9, m1, m2, hk, hbv, I1⟩ := s_look (l := l) (D := D) (g := g) (k := k) (f0 := f0) (qo := qo) (fo := fo) htr hL0 hL I (xs (i + 1))
  exact lw_look C0 hLs hXp hK hL0 hL hi hc1 hs1 I1.B m1 m2 hk hbv (kk u1 f1 tl1 tp1 fo1 r1 I1) H locs ls hP hD hS hl
set_option maxHeartbeats 4000000 in
set_option maxRecDepth 100000 in
theorem st_all {p : Program} {l : Launch} {e : Env} {s : State} {m : MethodId} {below : List Frame} {meth : Method} {c : Code} {b Ls : Nat} {xs : Nat → Int32} {Q : State → Prop} {D : va_G} {g : Nat → Nat} {k : Nat → ClassId} {L qo : Nat} {i cells slots : Nat} {u : DSt} {f0 : Nat → Int32} {tl : Nat} {tp : Nat → Int32} {fo : Nat → Int64} {r : RSt}
    (C0 : lw_At p s m meth c b Ls xs) (hLs : Ls ≤ 2561) (htr : l.stackTraces = false) (hXp : xP (fun q => s.heap.size ≤ q) s s.heap) (hK : va_K D cl5 (tyC k) s) (hL0 : 96 ≤ L) (hL : L ≤ 768) (I : Ivt L u tl tp r) (hi : i + 5 ≤ Ls) (hc1 : cells + 1 ≤ 601024) (hs1 : slots + 6 ≤ 7293000)
    (kk : ∀ (u1 : DSt) (f1 : Nat → Int32) (tl1 : Nat) (tp1 : Nat → Int32) (fo1 : Nat → Int64) (r1 : RSt), Ivt L u1 tl1 tp1 r1 → ∀ (H : Heap) (locs : List Loc) (ls : Array Slot), va_P D cl5 (wL g k L u1 f1 tl1 tp1 qo fo1 r1) H → va_D (fun q => s.heap.size ≤ q) (wL g k L u1 f1 tl1 tp1 qo fo1 r1) → va_S (fun q => s.heap.size ≤ q) s.heap H locs → lv_has ls 8 [(0, .ref b), (1, .ref (g 9)), (2, .ref (g 20)), (3, .ref qo), (4, .int (nI i))] → W p l e room_1 s m #[Value.ref b] below meth c H locs (cells + 1) (slots + 6) Q (F0 m 1049 ls []))
    (H : Heap) (locs : List Loc) (ls : Array Slot) (hP : va_P D cl5 (wL g k L u f0 tl tp qo fo r) H) (hD : va_D (fun q => s.heap.size ≤ q) (wL g k L u f0 tl tp qo fo r)) (hS : va_S (fun q => s.heap.size ≤ q) s.heap H locs) (hl : lv_has ls 8 [(0, .ref b), (1, .ref (g 9)), (2, .ref (g 20)), (3, .ref qo), (4, .int (nI i))]) : W p l e room_1 s m #[Value.ref b] below meth c H locs cells slots Q (F0 m 42 ls []) := by
  obtain ⟨hx, hb, hr, hml, hown, hts, hXs, hbl, hlocks, hgv⟩ := id C0
  have hbA : ¬ (fun q : Nat => s.heap.size ≤ q) b := Nat.not_le.mpr hbl
  refine lv_aload_n hx hb d_law_42 rfl (lv_at hl 0 rfl) ?_
  refine lv_iload hx hb d_law_43 (lv_at hl 4 rfl) ?_
  refine gz_sld hx hb hXs hbl hbA hS (i := i) (by omega) (by omega) d_law_45 ?_
  refine lv_bipush (v := nI 15) hx hb d_law_46 (by decide +kernel) ?_
  refine lv_iand hx hb d_law_48 ?_
  obtain ⟨j, hj, ej⟩ := pk_andE (xs i) (m := nI 15) 4 (by decide +kernel)
  rw [ej]
  have hj : j < 16 := hj
  have h16 : j = 0 ∨ j = 1 ∨ j = 2 ∨ j = 3 ∨ j = 4 ∨ j = 5 ∨ j = 6 ∨ j = 7 ∨ j = 8 ∨ j = 9 ∨ j = 10 ∨ j = 11 ∨ j = 12 ∨ j = 13 ∨ 14 ≤ j := by omega
  rcases h16 with h | h | h | h | h | h | h | h | h | h | h | h | h | h | h
  · subst h
    refine lv_tableIn (off := 71) (tgt := 120) hx hb d_law_49 (by decide) (by decide) (by decide +kernel) (by decide) ?_
    exact st_feed C0 hLs htr hXp hK hL0 hL I hi hc1 hs1 kk H locs ls hP hD hS hl
  · subst h
    refine lv_tableIn (off := 171) (tgt := 220) hx hb d_law_49 (by decide) (by decide) (by decide +kernel) (by decide) ?_
    exact st_make C0 hLs htr hXp hK hL0 hL I hi hc1 hs1 kk H locs ls hP hD hS hl
  · subst h
    refine lv_tableIn (off := 267) (tgt := 316) hx hb d_law_49 (by decide) (by decide) (by decide +kernel) (by decide) ?_
    exact st_find C0 hLs htr hXp hK hL0 hL I hi hc1 hs1 kk H locs ls hP hD hS hl
  · subst h
    refine lv_tableIn (off := 335) (tgt := 384) hx hb d_law_49 (by decide) (by decide) (by decide +kernel) (by decide) ?_
    exact st_write C0 hLs htr hXp hK hL0 hL I hi hc1 hs1 kk H locs ls hP hD hS hl
  · subst h
    refine lv_tableIn (off := 403) (tgt := 452) hx hb d_law_49 (by decide) (by decide) (by decide +kernel) (by decide) ?_
    exact st_cut C0 hLs htr hXp hK hL0 hL I hi hc1 hs1 kk H locs ls hP hD hS hl
  · subst h
    refine lv_tableIn (off := 471) (tgt := 520) hx hb d_law_49 (by decide) (by decide) (by decide +kernel) (by decide) ?_
    exact st_read C0 hLs htr hXp hK hL0 hL I hi hc1 hs1 kk H locs ls hP hD hS hl
  · subst h
    refine lv_tableIn (off := 538) (tgt := 587) hx hb d_law_49 (by decide) (by decide) (by decide +kernel) (by decide) ?_
    exact st_move C0 hLs htr hXp hK hL0 hL I hi hc1 hs1 kk H locs ls hP hD hS hl
  · subst h
    refine lv_tableIn (off := 630) (tgt := 679) hx hb d_law_49 (by decide) (by decide) (by decide +kernel) (by decide) ?_
    exact st_remove C0 hLs htr hXp hK hL0 hL I hi hc1 hs1 kk H locs ls hP hD hS hl
  · subst h
    refine lv_tableIn (off := 698) (tgt := 747) hx hb d_law_49 (by decide) (by decide) (by decide +kernel) (by decide) ?_
    exact st_commit C0 hLs htr hXp hK hL0 hL I hi hc1 hs1 kk H locs ls hP hD hS hl
  · subst h
    refine lv_tableIn (off := 711) (tgt := 760) hx hb d_law_49 (by decide) (by decide) (by decide +kernel) (by decide) ?_
    exact st_drop C0 hLs htr hXp hK hL0 hL I hi hc1 hs1 kk H locs ls hP hD hS hl
  · subst h
    refine lv_tableIn (off := 724) (tgt := 773) hx hb d_law_49 (by decide) (by decide) (by decide +kernel) (by decide) ?_
    exact st_node C0 hLs htr hXp hK hL0 hL I hi hc1 hs1 kk H locs ls hP hD hS hl
  · subst h
    refine lv_tableIn (off := 792) (tgt := 841) hx hb d_law_49 (by decide) (by decide) (by decide +kernel) (by decide) ?_
    exact st_at C0 hLs htr hXp hK hL0 hL I hi hc1 hs1 kk H locs ls hP hD hS hl
  · subst h
    refine lv_tableIn (off := 888) (tgt := 937) hx hb d_law_49 (by decide) (by decide) (by decide +kernel) (by decide) ?_
    exact st_changed C0 hLs htr hXp hK hL0 hL I hi hc1 hs1 kk H locs ls hP hD hS hl
  · subst h
    refine lv_tableIn (off := 944) (tgt := 993) hx hb d_law_49 (by decide) (by decide) (by decide +kernel) (by decide) ?_
    exact st_look C0 hLs htr hXp hK hL0 hL I hi hc1 hs1 kk H locs ls hP hD hS hl
  · refine lv_tableOut (tgt := 1049) hx hb d_law_49 (Or.inr (by rw [nI_toInt (by omega)]; omega)) (by decide) ?_
    exact W.widen (k := cells + 1) (n := slots + 6) (by omega) (by omega) (kk _ _ _ _ _ _ I H locs ls hP hD hS hl)
theorem law_end {i Ls : Nat} (hi : i < 100000) (hL : Ls < 100000) (h : ¬ nI Ls - nI 5 < nI i) : i + 5 ≤ Ls := by
  refine Classical.byContradiction (fun q => h ?_)
  rcases Nat.lt_or_ge Ls 5 with z | z
  · exact Int32.lt_of_lt_of_le (pk_sneg (by decide) z) (nI_pos' (by omega))
  · rw [pk_sub z]; exact nI_lt (by omega) (by omega)
set_option maxHeartbeats 4000000 in
set_option maxRecDepth 100000 in
theorem law_loop {p : Program} {l : Launch} {e : Env} {s : State} {m : MethodId} {below : List Frame} {meth : Method} {c : Code} {b Ls : Nat} {xs : Nat → Int32} {D : va_G} {g : Nat → Nat} {k : Nat → ClassId} {L qo : Nat}
    (C0 : lw_At p s m meth c b Ls xs) (hLs : Ls ≤ 2561) (htr : l.stackTraces = false) (hXp : xP (fun q => s.heap.size ≤ q) s s.heap) (hK : va_K D cl5 (tyC k) s) (hL0 : 96 ≤ L) (hL : L ≤ 768) :
    ∀ (n i cells slots : Nat) (u : DSt) (f0 : Nat → Int32) (tl : Nat) (tp : Nat → Int32) (fo : Nat → Int64) (r : RSt), i < 50000 → Ls ≤ i + 5 * n → cells + n ≤ 601024 → slots + 6 * n ≤ 7293000 → Ivt L u tl tp r →
    ∀ (H : Heap) (locs : List Loc) (ls : Array Slot) (hP : va_P D cl5 (wL g k L u f0 tl tp qo fo r) H) (hD : va_D (fun q => s.heap.size ≤ q) (wL g k L u f0 tl tp qo fo r)) (hS : va_S (fun q => s.heap.size ≤ q) s.heap H locs) (hl : lv_has ls 8 [(0, .ref b), (1, .ref (g 9)), (2, .ref (g 20)), (3, .ref qo), (4, .int (nI i))]), W p l e room_1 s m #[Value.ref b] below meth c H locs cells slots (lw_Z below #[Value.ref b] s) (F0 m 33 ls []) := by
  obtain ⟨hx, hb, hr, hml, hown, hts, hXs, hbl, hlocks, hgv⟩ := id C0
  have hbA : ¬ (fun q : Nat => s.heap.size ≤ q) b := Nat.not_le.mpr hbl
  have top : ∀ {i cells slots : Nat} {u : DSt} {f0 : Nat → Int32} {tl : Nat} {tp : Nat → Int32} {fo : Nat → Int64} {r : RSt} (H : Heap) (locs : List Loc) (ls : Array Slot), i < 50000 → cells ≤ 601024 → slots ≤ 7293000 → va_S (fun q => s.heap.size ≤ q) s.heap H locs → lv_has ls 8 [(0, .ref b), (1, .ref (g 9)), (2, .ref (g 20)), (3, .ref qo), (4, .int (nI i))] → (i + 5 ≤ Ls → W p l e room_1 s m #[Value.ref b] below meth c H locs cells slots (lw_Z below #[Value.ref b] s) (F0 m 42 ls [])) → W p l e room_1 s m #[Value.ref b] below meth c H locs cells slots (lw_Z below #[Value.ref b] s) (F0 m 33 ls []) := by
    intro i cells slots u f0 tl tp fo r H locs ls hi50 hc hs hS hl kk
    refine lv_iload hx hb d_law_33 (lv_at hl 4 rfl) ?_
    refine lv_aload_n hx hb d_law_35 rfl (lv_at hl 0 rfl) ?_
    refine va_slen hx hb hXs hbl hbA hS d_law_36 ?_
    refine lv_iconst (v := nI 5) hx hb d_law_37 (by decide +kernel) ?_
    refine lv_isub hx hb d_law_38 ?_
    refine lv_icmp_gt (tgt := 1055) hx hb d_law_39 (by decide) (fun h => ?_) (fun h => ?_)
    · refine lv_iconst (v := 1) hx hb d_law_1055 (by decide) ?_
      refine va_forget (fun q hq => hS.2.2 q hq) ?_
      refine W.widen (k := 601024) (n := 7293000) hc hs ?_
      exact lw_ret hx hb hr hlocks d_law_1056
    · exact kk (law_end (by omega) (by omega) h)
  intro n
  induction n with
  | zero =>
    intro i cells slots u f0 tl tp fo r hi50 hin hc hs I H locs ls hP hD hS hl
    exact top (u := u) (f0 := f0) (tl := tl) (tp := tp) (fo := fo) (r := r) H locs ls hi50 (by omega) (by omega) hS hl (fun h => absurd h (by omega))
  | succ n ih =>
    intro i cells slots u f0 tl tp fo r hi50 hin hc hs I H locs ls hP hD hS hl
    refine top (u := u) (f0 := f0) (tl := tl) (tp := tp) (fo := fo) (r := r) H locs ls hi50 (by omega) (by omega) hS hl (fun h => ?_)
    refine st_all C0 hLs htr hXp hK hL0 hL I h (by omega) (by omega) (fun u1 f1 tl1 tp1 fo1 r1 I1 H locs ls hP hD hS hl => ?_) H locs ls hP hD hS hl
    refine lv_iinc (v := nI (i + 5)) (lv' := [(4, .int (nI (i + 5))), (0, .ref b), (1, .ref (g 9)), (2, .ref (g 20)), (3, .ref qo)]) hx hb d_law_1049 hl (k := 4) rfl (by rw [show Int32.ofInt 5 = nI 5 from rfl, nI_add]) (by decide) rfl (fun ls hl => ?_)
    refine lv_goto (tgt := 33) hx hb d_law_1052 (by decide) ?_
    exact ih (i + 5) (cells + 1) (slots + 6) u1 f1 tl1 tp1 fo1 r1 (by omega) (by omega) (by omega) (by omega) I1 H locs ls hP hD hS (lv_sub hl [1, 2, 3, 4, 0] rfl)
