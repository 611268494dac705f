set_option maxHeartbeats 4000000 in
set_option maxRecDepth 100000 in
theorem lw_feed {p : Program} {l : Launch} {e : Env} {s : State} {m : MethodId} {below : List Frame} {meth : Method} {c : Code} {b Ls : Nat} {xs : Nat → Int32} {Q : State → Prop} {D : va_G} {g : Nat → Nat} {k : Nat → ClassId} {L qo i cells slots : Nat} {u u1 : DSt} {f0 f1 : Nat → Int32} {tl tl1 : Nat} {tp tp1 : Nat → Int32} {fo fo1 : Nat → Int64} {r r1 : RSt} {k9 : Int32} {b9 : Int32}
    (C0 : lw_At p s m meth c b Ls xs) (hLs : Ls ≤ 2561) (hXp : xP (fun q => s.heap.size ≤ q) s s.heap) (hK : va_K D cl5 (tyC k) s) (hL0 : 96 ≤ L) (hL : L ≤ 768) (hi : i + 5 ≤ Ls) (hc1 : cells + 1 ≤ 601024) (hs1 : slots + 6 ≤ 7293000) (hrB : rB r1) 
    (hM1 : MuH l y_Law_feed w_Law_feed ({ frames := 8, cells := 1, slots := 6, locals := 134 }) [.ref (g 9), .int (xs (i + 1)), .long ((((xs (i + 2)).toInt64) <<< ((nI 32).toInt64 &&& 63)) ||| ((xs (i + 3)).toInt64 &&& 4294967295)), .ref qo] D cl5 (tyC k) (wX g k L u f0 tl tp qo fo) (wX g k L u1 f1 tl1 tp1 qo fo1) k9) (hM2 : MuI l y_Mod_feed w_Mod_feed ({ frames := 1, cells := 0, slots := 0, locals := 22 }) [.ref (g 20), .int (xs (i + 1)), .long ((((xs (i + 2)).toInt64) <<< ((nI 32).toInt64 &&& 63)) ||| ((xs (i + 3)).toInt64 &&& 4294967295))] D cl5 (tyC k) (wM g k L r) (wM g k L r1) b9) (hk : rTh r1 = k9) (hbv : k9 = 0 → fo1 0 = b9.toInt64)
    (kk : ∀ (H : Heap) (locs : List Loc) (ls : Array Slot), va_P D cl5 (wL g k L u1 f1 tl1 tp1 qo fo1 r1) H → va_D (fun q => s.heap.size ≤ q) (wL g k L u1 f1 tl1 tp1 qo fo1 r1) → va_S (fun q => s.heap.size ≤ q) s.heap H locs → lv_has ls 8 [(0, .ref b), (1, .ref (g 9)), (2, .ref (g 20)), (3, .ref qo), (4, .int (nI i))] → W p l e room_1 s m #[Value.ref b] below meth c H locs (cells + 1) (slots + 6) Q (F0 m 1049 ls []))
    (H : Heap) (locs : List Loc) (ls : Array Slot) (hP : va_P D cl5 (wL g k L u f0 tl tp qo fo r) H) (hD : va_D (fun q => s.heap.size ≤ q) (wL g k L u f0 tl tp qo fo r)) (hS : va_S (fun q => s.heap.size ≤ q) s.heap H locs) (hl : lv_has ls 8 [(0, .ref b), (1, .ref (g 9)), (2, .ref (g 20)), (3, .ref qo), (4, .int (nI i))]) : W p l e room_1 s m #[Value.ref b] below meth c H locs cells slots Q (F0 m 120 ls []) := by
  obtain ⟨hx, hb, hr, hml, hown, hts, hXs, hbl, hlocks, hgv⟩ := C0
  have hTB : ∀ w ∈ lw_tb, w.before #[Value.ref b] s = true := fun w h => hts w (List.mem_filter.mp h).1
  have hA : ∀ q : Nat, s.heap.size ≤ q → (fun q : Nat => s.heap.size ≤ q) q := fun _ h => h
  have hbA : ¬ (fun q : Nat => s.heap.size ≤ q) b := Nat.not_le.mpr hbl
  generalize hAe : (fun q : Nat => s.heap.size ≤ q) = A at *
  refine lv_aload_n hx hb d_law_120 rfl (lv_at hl 1 rfl) ?_
  refine lv_aload_n hx hb d_law_121 rfl (lv_at hl 0 rfl) ?_
  refine lv_iload hx hb d_law_122 (lv_at hl 4 rfl) ?_
  refine lv_iconst (v := nI 1) hx hb d_law_124 (by decide +kernel) ?_
  refine gz_iadd hx hb d_law_125 ?_
  refine gz_sld hx hb hXs hbl hbA hS (i := i + 1) (by omega) (by omega) d_law_126 ?_
  refine lv_aload_n hx hb d_law_127 rfl (lv_at hl 0 rfl) ?_
  refine lv_iload hx hb d_law_128 (lv_at hl 4 rfl) ?_
  refine lv_iconst (v := nI 2) hx hb d_law_130 (by decide +kernel) ?_
  refine gz_iadd hx hb d_law_131 ?_
  refine gz_sld hx hb hXs hbl hbA hS (i := i + 2) (by omega) (by omega) d_law_132 ?_
  refine lv_i2l hx hb d_law_133 rfl ?_
  refine lv_bipush (v := nI 32) hx hb d_law_134 (by decide +kernel) ?_
  refine lv_lshl hx hb d_law_136 rfl ?_
  refine lv_aload_n hx hb d_law_137 rfl (lv_at hl 0 rfl) ?_
  refine lv_iload hx hb d_law_138 (lv_at hl 4 rfl) ?_
  refine lv_iconst (v := nI 3) hx hb d_law_140 (by decide +kernel) ?_
  refine gz_iadd hx hb d_law_141 ?_
  refine gz_sld hx hb hXs hbl hbA hS (i := i + 3) (by omega) (by omega) d_law_142 ?_
  refine lv_i2l hx hb d_law_143 rfl ?_
  refine lv_ldc2 (v := 4294967295) hx hb hown (hTB _ k_874) d_law_144 ?_
  refine lv_land hx hb d_law_147 ?_
  refine lv_lor hx hb d_law_148 ?_
  refine lv_aload_n hx hb d_law_149 rfl (lv_at hl 3 rfl) ?_
  refine gz_hI (As := [.ref (g 9), .int (xs (i + 1)), .long ((((xs (i + 2)).toInt64) <<< ((nI 32).toInt64 &&& 63)) ||| (((xs (i + 3)).toInt64) &&& 4294967295)), .ref qo]) (rest := []) (wc := (wX g k L u f0 tl tp qo fo)) (w1 := (wX g k L u1 f1 tl1 tp1 qo fo1)) (wr := (wM g k L r)) ⟨hx, hb, hml, hown, hTB⟩ hM1 (vx_cwSW 4 hTB (gd_SW k_227 k_228 k_50 k_50 kc_feed) rfl rfl rfl (by decide +kernel) ⟨Nat.le_of_ble_eq_true rfl, Nat.le_of_ble_eq_true rfl⟩) hXp hK hP hD hA [0, 1, 2, 3, 4, 5, 6, 7, 8, 9, 10, 11] [12, 13, 14, 15, 16, 17, 18, 19, 20, 21, 22] rfl rfl (by decide) rfl (by decide) (by decide) rfl hl.1 rfl (Nat.le_of_ble_eq_true rfl) d_law_150 ⟨hc1, hs1⟩ hS (fun H locs hP hD hS => ?_)
  have hP : va_P D cl5 (wL g k L u1 f1 tl1 tp1 qo fo1 r) H := hP.sub [11, 12, 13, 14, 15, 16, 17, 18, 19, 20, 21, 22, 0, 1, 2, 3, 4, 5, 6, 7, 8, 9, 10] rfl
  have hD : va_D A (wL g k L u1 f1 tl1 tp1 qo fo1 r) := hD.sub [11, 12, 13, 14, 15, 16, 17, 18, 19, 20, 21, 22, 0, 1, 2, 3, 4, 5, 6, 7, 8, 9, 10] (by decide) rfl
  refine lv_istore (lv' := [(5, .int (k9)), (0, .ref b), (1, .ref (g 9)), (2, .ref (g 20)), (3, .ref qo), (4, .int (nI i))]) hx hb d_law_153 hl (by decide) rfl (fun ls hl => ?_)
  refine lv_aload_n hx hb d_law_155 rfl (lv_at hl 3 rfl) ?_
  refine lv_aload_n hx hb d_law_156 rfl (lv_at hl 1 rfl) ?_
  refine lv_iload hx hb d_law_157 (lv_at hl 5 rfl) ?_
  refine lv_iconst (v := nI 1) hx hb d_law_159 (by decide +kernel) ?_
  refine gz_iadd hx hb d_law_160 ?_
  refine gz_sld hx hb hXs hbl hbA hS (i := i + 1) (by omega) (by omega) d_law_161 ?_
  refine lv_aload_n hx hb d_law_162 rfl (lv_at hl 1 rfl) ?_
  refine lv_iload hx hb d_law_163 (lv_at hl 5 rfl) ?_
  refine lv_iconst (v := nI 2) hx hb d_law_165 (by decide +kernel) ?_
  refine gz_iadd hx hb d_law_166 ?_
  refine gz_sld hx hb hXs hbl hbA hS (i := i + 2) (by omega) (by omega) d_law_167 ?_
  refine lv_i2l hx hb d_law_168 rfl ?_
  refine lv_bipush (v := nI 32) hx hb d_law_169 (by decide +kernel) ?_
  refine lv_lshl hx hb d_law_171 rfl ?_
  refine lv_aload_n hx hb d_law_172 rfl (lv_at hl 1 rfl) ?_
  refine lv_iload hx hb d_law_173 (lv_at hl 5 rfl) ?_
  refine lv_iconst (v := nI 3) hx hb d_law_175 (by decide +kernel) ?_
  refine gz_iadd hx hb d_law_176 ?_
  refine gz_sld hx hb hXs hbl hbA hS (i := i + 3) (by omega) (by omega) d_law_177 ?_
  refine lv_i2l hx hb d_law_178 rfl ?_
  refine lv_ldc2 (v := 4294967295) hx hb hown (hTB _ k_874) d_law_179 ?_
  refine lv_land hx hb d_law_182 ?_
  refine lv_lor hx hb d_law_183 ?_
  refine gz_muI (As := [.int (xs (i + 1)), .long ((((xs (i + 2)).toInt64) <<< ((nI 32).toInt64 &&& 63)) ||| (((xs (i + 3)).toInt64) &&& 4294967295))]) (rest := []) (wc := (wM g k L r)) (w1 := (wM g k L r1)) (wr := (wX g k L u1 f1 tl1 tp1 qo fo1)) ⟨hx, hb, hml, hown, hTB⟩ hM2 (cwV 2 hTB (gd_V k_691 k_692 k_693 k_56 k_694) rfl rfl rfl (by decide +kernel) ⟨Nat.le_of_ble_eq_true rfl, Nat.le_of_ble_eq_true rfl⟩) hK hP hD hA [12, 13, 14, 15, 16, 17, 18, 19, 20, 21, 22] [0, 1, 2, 3, 4, 5, 6, 7, 8, 9, 10, 11] rfl rfl (by decide) rfl (by decide) (by decide) 12 rfl rfl rfl hl.1 rfl (Nat.le_of_ble_eq_true rfl) d_law_184 ⟨hc1, hs1⟩ hS (fun H locs hP hD hS => ?_)
  have hP : va_P D cl5 (wL g k L u1 f1 tl1 tp1 qo fo1 r1) H := hP.sub [0, 1, 2, 3, 4, 5, 6, 7, 8, 9, 10, 11, 12, 13, 14, 15, 16, 17, 18, 19, 20, 21, 22] rfl
  have hD : va_D A (wL g k L u1 f1 tl1 tp1 qo fo1 r1) := hD.sub [0, 1, 2, 3, 4, 5, 6, 7, 8, 9, 10, 11, 12, 13, 14, 15, 16, 17, 18, 19, 20, 21, 22] (by decide) rfl
  refine lv_istore (lv' := [(6, .int (b9)), (5, .int (k9)), (0, .ref b), (1, .ref (g 9)), (2, .ref (g 20)), (3, .ref qo), (4, .int (nI i))]) hx hb d_law_187 hl (by decide) rfl (fun ls hl => ?_)
  refine lv_aload_n hx hb d_law_189 rfl (lv_at hl 4 rfl) ?_
  refine gz_roV (As := []) (rest := []) (wc := (wM g k L r1)) ⟨hx, hb, hml, hown, hTB⟩ (c_Mod_thrown l D g k L hL0 hL r1 hrB) (cwV 0 hTB (gd_V k_687 k_688 k_689 k_56 k_690) rfl rfl rfl (by decide +kernel) ⟨Nat.le_of_ble_eq_true rfl, Nat.le_of_ble_eq_true rfl⟩) hK hP [12, 13, 14, 15, 16, 17, 18, 19, 20, 21, 22] rfl 12 rfl rfl rfl hl.1 rfl (Nat.le_of_ble_eq_true rfl) d_law_190 ⟨hc1, hs1⟩ hS (fun H locs hP hS => ?_)
  refine lv_iload hx hb d_law_193 (lv_at hl 1 rfl) ?_
  refine lv_icmp_eq (tgt := 200) hx hb d_law_195 (by decide) (fun h195 => ?_) (fun h195 => ?_)
  · refine lv_iload hx hb d_law_200 (lv_at hl 1 rfl) ?_
    refine lv_if_ne (tgt := 217) hx hb d_law_202 (by decide) (fun h202 => ?_) (fun h202 => ?_)
    · refine lv_goto (tgt := 1049) hx hb d_law_217 (by decide) ?_
      exact kk _ _ _ hP hD hS (lv_sub hl [2, 3, 4, 5, 6] rfl)
    · refine lv_aload_n hx hb d_law_205 rfl (lv_at hl 5 rfl) ?_
      refine lv_iconst (v := nI 0) hx hb d_law_206 (by decide +kernel) ?_
      refine gz_lald hx hb hK hP 11 0 rfl rfl (i := 0) (by omega) (by omega) d_law_207 ?_
      refine lv_iload hx hb d_law_208 (lv_at hl 0 rfl) ?_
      refine lv_i2l hx hb d_law_210 rfl ?_
      refine W.lcmp hx hb d_law_211 ?_
      refine lv_if_eq (tgt := 217) hx hb d_law_212 (by decide) (fun h212 => ?_) (fun h212 => ?_)
      · refine lv_goto (tgt := 1049) hx hb d_law_217 (by decide) ?_
        exact kk _ _ _ hP hD hS (lv_sub hl [2, 3, 4, 5, 6] rfl)
      · exact absurd ((lg_cmp_eq _ _).mpr (hbv h202)) h212
  · exact absurd hk h195
set_option maxHeartbeats 4000000 in
set_option maxRecDepth 100000 in
theorem lw_make_0 {p : Program} {l : Launch} {e : Env} {s : State} {m : MethodId} {below : List Frame} {meth : Method} {c : Code} {b Ls : Nat} {xs : Nat → Int32} {Q : State → Prop} {D : va_G} {g : Nat → Nat} {k : Nat → ClassId} {L qo i cells slots : Nat} {u u1 : DSt} {f0 f1 : Nat → Int32} {tl tl1 : Nat} {tp tp1 : Nat → Int32} {fo fo1 : Nat → Int64} {r r1 : RSt} {k9 : Int32} {b9 : Int32}
    (C0 : lw_At p s m meth c b Ls xs) (hLs : Ls ≤ 2561) (hXp : xP (fun q => s.heap.size ≤ q) s s.heap) (hK : va_K D cl5 (tyC k) s) (hL0 : 96 ≤ L) (hL : L ≤ 768) (hi : i + 5 ≤ Ls) (hc1 : cells + 1 ≤ 601024) (hs1 : slots + 6 ≤ 7293000) (hrB : rB r1) (hz :  xs (i + 3) = 0)
    (hM1 : MuH l y_Law_make w_Law_make ({ frames := 9, cells := 1, slots := 6, locals := 229 }) [.ref (g 9), .int (xs (i + 1)), .int (xs (i + 2)), .int (nI 0), .ref qo] D cl5 (tyC k) (wX g k L u f0 tl tp qo fo) (wX g k L u1 f1 tl1 tp1 qo fo1) k9) (hM2 : MuI l y_Mod_make w_Mod_make ({ frames := 8, cells := 0, slots := 0, locals := 196 }) [.ref (g 20), .int (xs (i + 1)), .int (xs (i + 2)), .int (nI 0)] D cl5 (tyC k) (wM g k L r) (wM g k L r1) b9) (hk : rTh r1 = k9) (hbv : k9 = 0 → fo1 0 = b9.toInt64)
    (kk : ∀ (H : Heap) (locs : List Loc) (ls : Array Slot), va_P D cl5 (wL g k L u1 f1 tl1 tp1 qo fo1 r1) H → va_D (fun q => s.heap.size ≤ q) (wL g k L u1 f1 tl1 tp1 qo fo1 r1) → va_S (fun q => s.heap.size ≤ q) s.heap H locs → lv_has ls 8 [(0, .ref b), (1, .ref (g 9)), (2, .ref (g 20)), (3, .ref qo), (4, .int (nI i))] → W p l e room_1 s m #[Value.ref b] below meth c H locs (cells + 1) (slots + 6) Q (F0 m 1049 ls []))
    (H : Heap) (locs : List Loc) (ls : Array Slot) (hP : va_P D cl5 (wL g k L u f0 tl tp qo fo r) H) (hD : va_D (fun q => s.heap.size ≤ q) (wL g k L u f0 tl tp qo fo r)) (hS : va_S (fun q => s.heap.size ≤ q) s.heap H locs) (hl : lv_has ls 8 [(0, .ref b), (1, .ref (g 9)), (2, .ref (g 20)), (3, .ref qo), (4, .int (nI i))]) : W p l e room_1 s m #[Value.ref b] below meth c H locs cells slots Q (F0 m 220 ls []) := by
  obtain ⟨hx, hb, hr, hml, hown, hts, hXs, hbl, hlocks, hgv⟩ := C0
  have hTB : ∀ w ∈ lw_tb, w.before #[Value.ref b] s = true := fun w h => hts w (List.mem_filter.mp h).1
  have hA : ∀ q : Nat, s.heap.size ≤ q → (fun q : Nat => s.heap.size ≤ q) q := fun _ h => h
  have hbA : ¬ (fun q : Nat => s.heap.size ≤ q) b := Nat.not_le.mpr hbl
  generalize hAe : (fun q : Nat => s.heap.size ≤ q) = A at *
  refine lv_aload_n hx hb d_law_220 rfl (lv_at hl 1 rfl) ?_
  refine lv_aload_n hx hb d_law_221 rfl (lv_at hl 0 rfl) ?_
  refine lv_iload hx hb d_law_222 (lv_at hl 4 rfl) ?_
  refine lv_iconst (v := nI 1) hx hb d_law_224 (by decide +kernel) ?_
  refine gz_iadd hx hb d_law_225 ?_
  refine gz_sld hx hb hXs hbl hbA hS (i := i + 1) (by omega) (by omega) d_law_226 ?_
  refine lv_aload_n hx hb d_law_227 rfl (lv_at hl 0 rfl) ?_
  refine lv_iload hx hb d_law_228 (lv_at hl 4 rfl) ?_
  refine lv_iconst (v := nI 2) hx hb d_law_230 (by decide +kernel) ?_
  refine gz_iadd hx hb d_law_231 ?_
  refine gz_sld hx hb hXs hbl hbA hS (i := i + 2) (by omega) (by omega) d_law_232 ?_
  refine lv_aload_n hx hb d_law_233 rfl (lv_at hl 0 rfl) ?_
  refine lv_iload hx hb d_law_234 (lv_at hl 4 rfl) ?_
  refine lv_iconst (v := nI 3) hx hb d_law_236 (by decide +kernel) ?_
  refine gz_iadd hx hb d_law_237 ?_
  refine gz_sld hx hb hXs hbl hbA hS (i := i + 3) (by omega) (by omega) d_law_238 ?_
  refine lv_if_eq (tgt := 246) hx hb d_law_239 (by decide) (fun h239 => ?_) (fun h239 => ?_)
  · refine lv_iconst (v := nI 0) hx hb d_law_246 (by decide +kernel) ?_
    refine lv_aload_n hx hb d_law_247 rfl (lv_at hl 3 rfl) ?_
    refine gz_hI (As := [.ref (g 9), .int (xs (i + 1)), .int (xs (i + 2)), .int (nI 0), .ref qo]) (rest := []) (wc := (wX g k L u f0 tl tp qo fo)) (w1 := (wX g k L u1 f1 tl1 tp1 qo fo1)) (wr := (wM g k L r)) ⟨hx, hb, hml, hown, hTB⟩ hM1 (vx_cwSW 5 hTB (gd_SW k_320 k_321 k_50 k_50 kc_make) rfl rfl rfl (by decide +kernel) ⟨Nat.le_of_ble_eq_true rfl, Nat.le_of_ble_eq_true rfl⟩) hXp hK hP hD hA [0, 1, 2, 3, 4, 5, 6, 7, 8, 9, 10, 11] [12, 13, 14, 15, 16, 17, 18, 19, 20, 21, 22] rfl rfl (by decide) rfl (by decide) (by decide) rfl hl.1 rfl (Nat.le_of_ble_eq_true rfl) d_law_248 ⟨hc1, hs1⟩ hS (fun H locs hP hD hS => ?_)
    have hP : va_P D cl5 (wL g k L u1 f1 tl1 tp1 qo fo1 r) H := hP.sub [11, 12, 13, 14, 15, 16, 17, 18, 19, 20, 21, 22, 0, 1, 2, 3, 4, 5, 6, 7, 8, 9, 10] rfl
    have hD : va_D A (wL g k L u1 f1 tl1 tp1 qo fo1 r) := hD.sub [11, 12, 13, 14, 15, 16, 17, 18, 19, 20, 21, 22, 0, 1, 2, 3, 4, 5, 6, 7, 8, 9, 10] (by decide) rfl
    refine lv_istore (lv' := [(5, .int (k9)), (0, .ref b), (1, .ref (g 9)), (2, .ref (g 20)), (3, .ref qo), (4, .int (nI i))]) hx hb d_law_251 hl (by decide) rfl (fun ls hl => ?_)
    refine lv_aload_n hx hb d_law_253 rfl (lv_at hl 3 rfl) ?_
    refine lv_aload_n hx hb d_law_254 rfl (lv_at hl 1 rfl) ?_
    refine lv_iload hx hb d_law_255 (lv_at hl 5 rfl) ?_
    refine lv_iconst (v := nI 1) hx hb d_law_257 (by decide +kernel) ?_
    refine gz_iadd hx hb d_law_258 ?_
    refine gz_sld hx hb hXs hbl hbA hS (i := i + 1) (by omega) (by omega) d_law_259 ?_
    refine lv_aload_n hx hb d_law_260 rfl (lv_at hl 1 rfl) ?_
    refine lv_iload hx hb d_law_261 (lv_at hl 5 rfl) ?_
    refine lv_iconst (v := nI 2) hx hb d_law_263 (by decide +kernel) ?_
    refine gz_iadd hx hb d_law_264 ?_
    refine gz_sld hx hb hXs hbl hbA hS (i := i + 2) (by omega) (by omega) d_law_265 ?_
    refine lv_aload_n hx hb d_law_266 rfl (lv_at hl 1 rfl) ?_
    refine lv_iload hx hb d_law_267 (lv_at hl 5 rfl) ?_
    refine lv_iconst (v := nI 3) hx hb d_law_269 (by decide +kernel) ?_
    refine gz_iadd hx hb d_law_270 ?_
    refine gz_sld hx hb hXs hbl hbA hS (i := i + 3) (by omega) (by omega) d_law_271 ?_
    refine lv_if_eq (tgt := 279) hx hb d_law_272 (by decide) (fun h272 => ?_) (fun h272 => ?_)
    · refine lv_iconst (v := nI 0) hx hb d_law_279 (by decide +kernel) ?_
      refine gz_muI (As := [.int (xs (i + 1)), .int (xs (i + 2)), .int (nI 0)]) (rest := []) (wc := (wM g k L r)) (w1 := (wM g k L r1)) (wr := (wX g k L u1 f1 tl1 tp1 qo fo1)) ⟨hx, hb, hml, hown, hTB⟩ hM2 (cwV 3 hTB (gd_V k_703 k_704 k_705 k_56 k_706) rfl rfl rfl (by decide +kernel) ⟨Nat.le_of_ble_eq_true rfl, Nat.le_of_ble_eq_true rfl⟩) hK hP hD hA [12, 13, 14, 15, 16, 17, 18, 19, 20, 21, 22] [0, 1, 2, 3, 4, 5, 6, 7, 8, 9, 10, 11] rfl rfl (by decide) rfl (by decide) (by decide) 12 rfl rfl rfl hl.1 rfl (Nat.le_of_ble_eq_true rfl) d_law_280 ⟨hc1, hs1⟩ hS (fun H locs hP hD hS => ?_)
      have hP : va_P D cl5 (wL g k L u1 f1 tl1 tp1 qo fo1 r1) H := hP.sub [0, 1, 2, 3, 4, 5, 6, 7, 8, 9, 10, 11, 12, 13, 14, 15, 16, 17, 18, 19, 20, 21, 22] rfl
      have hD : va_D A (wL g k L u1 f1 tl1 tp1 qo fo1 r1) := hD.sub [0, 1, 2, 3, 4, 5, 6, 7, 8, 9, 10, 11, 12, 13, 14, 15, 16, 17, 18, 19, 20, 21, 22] (by decide) rfl
      refine lv_istore (lv' := [(6, .int (b9)), (5, .int (k9)), (0, .ref b), (1, .ref (g 9)), (2, .ref (g 20)), (3, .ref qo), (4, .int (nI i))]) hx hb d_law_283 hl (by decide) rfl (fun ls hl => ?_)
      refine lv_aload_n hx hb d_law_285 rfl (lv_at hl 4 rfl) ?_
      refine gz_roV (As := []) (rest := []) (wc := (wM g k L r1)) ⟨hx, hb, hml, hown, hTB⟩ (c_Mod_thrown l D g k L hL0 hL r1 hrB) (cwV 0 hTB (gd_V k_687 k_688 k_689 k_56 k_690) rfl rfl rfl (by decide +kernel) ⟨Nat.le_of_ble_eq_true rfl, Nat.le_of_ble_eq_true rfl⟩) hK hP [12, 13, 14, 15, 16, 17, 18, 19, 20, 21, 22] rfl 12 rfl rfl rfl hl.1 rfl (Nat.le_of_ble_eq_true rfl) d_law_286 ⟨hc1, hs1⟩ hS (fun H locs hP hS => ?_)
      refine lv_iload hx hb d_law_289 (lv_at hl 1 rfl) ?_
      refine lv_icmp_eq (tgt := 296) hx hb d_law_291 (by decide) (fun h291 => ?_) (fun h291 => ?_)
      · refine lv_iload hx hb d_law_296 (lv_at hl 1 rfl) ?_
        refine lv_if_ne (tgt := 313) hx hb d_law_298 (by decide) (fun h298 => ?_) (fun h298 => ?_)
        · refine lv_goto (tgt := 1049) hx hb d_law_313 (by decide) ?_
          exact kk _ _ _ hP hD hS (lv_sub hl [2, 3, 4, 5, 6] rfl)
        · refine lv_aload_n hx hb d_law_301 rfl (lv_at hl 5 rfl) ?_
          refine lv_iconst (v := nI 0) hx hb d_law_302 (by decide +kernel) ?_
          refine gz_lald hx hb hK hP 11 0 rfl rfl (i := 0) (by omega) (by omega) d_law_303 ?_
          refine lv_iload hx hb d_law_304 (lv_at hl 0 rfl) ?_
          refine lv_i2l hx hb d_law_306 rfl ?_
          refine W.lcmp hx hb d_law_307 ?_
          refine lv_if_eq (tgt := 313) hx hb d_law_308 (by decide) (fun h308 => ?_) (fun h308 => ?_)
          · refine lv_goto (tgt := 1049) hx hb d_law_313 (by decide) ?_
            exact kk _ _ _ hP hD hS (lv_sub hl [2, 3, 4, 5, 6] rfl)
          · exact absurd ((lg_cmp_eq _ _).mpr (hbv h298)) h308
      · exact absurd hk h291
    · exact absurd hz h272
  · exact absurd hz h239
set_option maxHeartbeats 4000000 in
set_option maxRecDepth 100000 in
theorem lw_make_1 {p : Program} {l : Launch} {e : Env} {s : State} {m : MethodId} {below : List Frame} {meth : Method} {c : Code} {b Ls : Nat} {xs : Nat → Int32} {Q : State → Prop} {D : va_G} {g : Nat → Nat} {k : Nat → ClassId} {L qo i cells slots : Nat} {u u1 : DSt} {f0 f1 : Nat → Int32} {tl tl1 : Nat} {tp tp1 : Nat → Int32} {fo fo1 : Nat → Int64} {r r1 : RSt} {k9 : Int32} {b9 : Int32}
    (C0 : lw_At p s m meth c b Ls xs) (hLs : Ls ≤ 2561) (hXp : xP (fun q => s.heap.size ≤ q) s s.heap) (hK : va_K D cl5 (tyC k) s) (hL0 : 96 ≤ L) (hL : L ≤ 768) (hi : i + 5 ≤ Ls) (hc1 : cells + 1 ≤ 601024) (hs1 : slots + 6 ≤ 7293000) (hrB : rB r1) (hz : ¬ xs (i + 3) = 0)
    (hM1 : MuH l y_Law_make w_Law_make ({ frames := 9, cells := 1, slots := 6, locals := 229 }) [.ref (g 9), .int (xs (i + 1)), .int (xs (i + 2)), .int (nI 1), .ref qo] D cl5 (tyC k) (wX g k L u f0 tl tp qo fo) (wX g k L u1 f1 tl1 tp1 qo fo1) k9) (hM2 : MuI l y_Mod_make w_Mod_make ({ frames := 8, cells := 0, slots := 0, locals := 196 }) [.ref (g 20), .int (xs (i + 1)), .int (xs (i + 2)), .int (nI 1)] D cl5 (tyC k) (wM g k L r) (wM g k L r1) b9) (hk : rTh r1 = k9) (hbv : k9 = 0 → fo1 0 = b9.toInt64)
    (kk : ∀ (H : Heap) (locs : List Loc) (ls : Array Slot), va_P D cl5 (wL g k L u1 f1 tl1 tp1 qo fo1 r1) H → va_D (fun q => s.heap.size ≤ q) (wL g k L u1 f1 tl1 tp1 qo fo1 r1) → va_S (fun q => s.heap.size ≤ q) s.heap H locs → lv_has ls 8 [(0, .ref b), (1, .ref (g 9)), (2, .ref (g 20)), (3, .ref qo), (4, .int (nI i))] → W p l e room_1 s m #[Value.ref b] below meth c H locs (cells + 1) (slots + 6) Q (F0 m 1049 ls []))
    (H : Heap) (locs : List Loc) (ls : Array Slot) (hP : va_P D cl5 (wL g k L u f0 tl tp qo fo r) H) (hD : va_D (fun q => s.heap.size ≤ q) (wL g k L u f0 tl tp qo fo r)) (hS : va_S (fun q => s.heap.size ≤ q) s.heap H locs) (hl : lv_has ls 8 [(0, .ref b), (1, .ref (g 9)), (2, .ref (g 20)), (3, .ref qo), (4, .int (nI i))]) : W p l e room_1 s m #[Value.ref b] below meth c H locs cells slots Q (F0 m 220 ls []) := by
  obtain ⟨hx, hb, hr, hml, hown, hts, hXs, hbl, hlocks, hgv⟩ := C0
  have hTB : ∀ w ∈ lw_tb, w.before #[Value.ref b] s = true := fun w h => hts w (List.mem_filter.mp h).1
  have hA : ∀ q : Nat, s.heap.size ≤ q → (fun q : Nat => s.heap.size ≤ q) q := fun _ h => h
  have hbA : ¬ (fun q : Nat => s.heap.size ≤ q) b := Nat.not_le.mpr hbl
  generalize hAe : (fun q : Nat => s.heap.size ≤ q) = A at *
  refine lv_aload_n hx hb d_law_220 rfl (lv_at hl 1 rfl) ?_
  refine lv_aload_n hx hb d_law_221 rfl (lv_at hl 0 rfl) ?_
  refine lv_iload hx hb d_law_222 (lv_at hl 4 rfl) ?_
  refine lv_iconst (v := nI 1) hx hb d_law_224 (by decide +kernel) ?_
  refine gz_iadd hx hb d_law_225 ?_
  refine gz_sld hx hb hXs hbl hbA hS (i := i + 1) (by omega) (by omega) d_law_226 ?_
  refine lv_aload_n hx hb d_law_227 rfl (lv_at hl 0 rfl) ?_
  refine lv_iload hx hb d_law_228 (lv_at hl 4 rfl) ?_
  refine lv_iconst (v := nI 2) hx hb d_law_230 (by decide +kernel) ?_
  refine gz_iadd hx hb d_law_231 ?_
  refine gz_sld hx hb hXs hbl hbA hS (i := i + 2) (by omega) (by omega) d_law_232 ?_
  refine lv_aload_n hx hb d_law_233 rfl (lv_at hl 0 rfl) ?_
  refine lv_iload hx hb d_law_234 (lv_at hl 4 rfl) ?_
  refine lv_iconst (v := nI 3) hx hb d_law_236 (by decide +kernel) ?_
  refine gz_iadd hx hb d_law_237 ?_
  refine gz_sld hx hb hXs hbl hbA hS (i := i + 3) (by omega) (by omega) d_law_238 ?_
  refine lv_if_eq (tgt := 246) hx hb d_law_239 (by decide) (fun h239 => ?_) (fun h239 => ?_)
  · exact absurd h239 hz
  · refine lv_iconst (v := nI 1) hx hb d_law_242 (by decide +kernel) ?_
    refine lv_goto (tgt := 247) hx hb d_law_243 (by decide) ?_
    refine lv_aload_n hx hb d_law_247 rfl (lv_at hl 3 rfl) ?_
    refine gz_hI (As := [.ref (g 9), .int (xs (i + 1)), .int (xs (i + 2)), .int (nI 1), .ref qo]) (rest := []) (wc := (wX g k L u f0 tl tp qo fo)) (w1 := (wX g k L u1 f1 tl1 tp1 qo fo1)) (wr := (wM g k L r)) ⟨hx, hb, hml, hown, hTB⟩ hM1 (vx_cwSW 5 hTB (gd_SW k_320 k_321 k_50 k_50 kc_make) rfl rfl rfl (by decide +kernel) ⟨Nat.le_of_ble_eq_true rfl, Nat.le_of_ble_eq_true rfl⟩) hXp hK hP hD hA [0, 1, 2, 3, 4, 5, 6, 7, 8, 9, 10, 11] [12, 13, 14, 15, 16, 17, 18, 19, 20, 21, 22] rfl rfl (by decide) rfl (by decide) (by decide) rfl hl.1 rfl (Nat.le_of_ble_eq_true rfl) d_law_248 ⟨hc1, hs1⟩ hS (fun H locs hP hD hS => ?_)
    have hP : va_P D cl5 (wL g k L u1 f1 tl1 tp1 qo fo1 r) H := hP.sub [11, 12, 13, 14, 15, 16, 17, 18, 19, 20, 21, 22, 0, 1, 2, 3, 4, 5, 6, 7, 8, 9, 10] rfl
    have hD : va_D A (wL g k L u1 f1 tl1 tp1 qo fo1 r) := hD.sub [11, 12, 13, 14, 15, 16, 17, 18, 19, 20, 21, 22, 0, 1, 2, 3, 4, 5, 6, 7, 8, 9, 10] (by decide) rfl
    refine lv_istore (lv' := [(5, .int (k9)), (0, .ref b), (1, .ref (g 9)), (2, .ref (g 20)), (3, .ref qo), (4, .int (nI i))]) hx hb d_law_251 hl (by decide) rfl (fun ls hl => ?_)
    refine lv_aload_n hx hb d_law_253 rfl (lv_at hl 3 rfl) ?_
    refine lv_aload_n hx hb d_law_254 rfl (lv_at hl 1 rfl) ?_
    refine lv_iload hx hb d_law_255 (lv_at hl 5 rfl) ?_
    refine lv_iconst (v := nI 1) hx hb d_law_257 (by decide +kernel) ?_
    refine gz_iadd hx hb d_law_258 ?_
    refine gz_sld hx hb hXs hbl hbA hS (i := i + 1) (by omega) (by omega) d_law_259 ?_
    refine lv_aload_n hx hb d_law_260 rfl (lv_at hl 1 rfl) ?_
    refine lv_iload hx hb d_law_261 (lv_at hl 5 rfl) ?_
    refine lv_iconst (v := nI 2) hx hb d_law_263 (by decide +kernel) ?_
    refine gz_iadd hx hb d_law_264 ?_
    refine gz_sld hx hb hXs hbl hbA hS (i := i + 2) (by omega) (by omega) d_law_265 ?_
    refine lv_aload_n hx hb d_law_266 rfl (lv_at hl 1 rfl) ?_
    refine lv_iload hx hb d_law_267 (lv_at hl 5 rfl) ?_
    refine lv_iconst (v := nI 3) hx hb d_law_269 (by decide +kernel) ?_
    refine gz_iadd hx hb d_law_270 ?_
    refine gz_sld hx hb hXs hbl hbA hS (i := i + 3) (by omega) (by omega) d_law_271 ?_
    refine lv_if_eq (tgt := 279) hx hb d_law_272 (by decide) (fun h272 => ?_) (fun h272 => ?_)
    · exact absurd h272 hz
    · refine lv_iconst (v := nI 1) hx hb d_law_275 (by decide +kernel) ?_
      refine lv_goto (tgt := 280) hx hb d_law_276 (by decide) ?_
      refine gz_muI (As := [.int (xs (i + 1)), .int (xs (i + 2)), .int (nI 1)]) (rest := []) (wc := (wM g k L r)) (w1 := (wM g k L r1)) (wr := (wX g k L u1 f1 tl1 tp1 qo fo1)) ⟨hx, hb, hml, hown, hTB⟩ hM2 (cwV 3 hTB (gd_V k_703 k_704 k_705 k_56 k_706) rfl rfl rfl (by decide +kernel) ⟨Nat.le_of_ble_eq_true rfl, Nat.le_of_ble_eq_true rfl⟩) hK hP hD hA [12, 13, 14, 15, 16, 17, 18, 19, 20, 21, 22] [0, 1, 2, 3, 4, 5, 6, 7, 8, 9, 10, 11] rfl rfl (by decide) rfl (by decide) (by decide) 12 rfl rfl rfl hl.1 rfl (Nat.le_of_ble_eq_true rfl) d_law_280 ⟨hc1, hs1⟩ hS (fun H locs hP hD hS => ?_)
      have hP : va_P D cl5 (wL g k L u1 f1 tl1 tp1 qo fo1 r1) H := hP.sub [0, 1, 2, 3, 4, 5, 6, 7, 8, 9, 10, 11, 12, 13, 14, 15, 16, 17, 18, 19, 20, 21, 22] rfl
      have hD : va_D A (wL g k L u1 f1 tl1 tp1 qo fo1 r1) := hD.sub [0, 1, 2, 3, 4, 5, 6, 7, 8, 9, 10, 11, 12, 13, 14, 15, 16, 17, 18, 19, 20, 21, 22] (by decide) rfl
      refine lv_istore (lv' := [(6, .int (b9)), (5, .int (k9)), (0, .ref b), (1, .ref (g 9)), (2, .ref (g 20)), (3, .ref qo), (4, .int (nI i))]) hx hb d_law_283 hl (by decide) rfl (fun ls hl => ?_)
      refine lv_aload_n hx hb d_law_285 rfl (lv_at hl 4 rfl) ?_
      refine gz_roV (As := []) (rest := []) (wc := (wM g k L r1)) ⟨hx, hb, hml, hown, hTB⟩ (c_Mod_thrown l D g k L hL0 hL r1 hrB) (cwV 0 hTB (gd_V k_687 k_688 k_689 k_56 k_690) rfl rfl rfl (by decide +kernel) ⟨Nat.le_of_ble_eq_true rfl, Nat.le_of_ble_eq_true rfl⟩) hK hP [12, 13, 14, 15, 16, 17, 18, 19, 20, 21, 22] rfl 12 rfl rfl rfl hl.1 rfl (Nat.le_of_ble_eq_true rfl) d_law_286 ⟨hc1, hs1⟩ hS (fun H locs hP hS => ?_)
      refine lv_iload hx hb d_law_289 (lv_at hl 1 rfl) ?_
      refine lv_icmp_eq (tgt := 296) hx hb d_law_291 (by decide) (fun h291 => ?_) (fun h291 => ?_)
      · refine lv_iload hx hb d_law_296 (lv_at hl 1 rfl) ?_
        refine lv_if_ne (tgt := 313) hx hb d_law_298 (by decide) (fun h298 => ?_) (fun h298 => ?_)
        · refine lv_goto (tgt := 1049) hx hb d_law_313 (by decide) ?_
          exact kk _ _ _ hP hD hS (lv_sub hl [2, 3, 4, 5, 6] rfl)
        · refine lv_aload_n hx hb d_law_301 rfl (lv_at hl 5 rfl) ?_
          refine lv_iconst (v := nI 0) hx hb d_law_302 (by decide +kernel) ?_
          refine gz_lald hx hb hK hP 11 0 rfl rfl (i := 0) (by omega) (by omega) d_law_303 ?_
          refine lv_iload hx hb d_law_304 (lv_at hl 0 rfl) ?_
          refine lv_i2l hx hb d_law_306 rfl ?_
          refine W.lcmp hx hb d_law_307 ?_
          refine lv_if_eq (tgt := 313) hx hb d_law_308 (by decide) (fun h308 => ?_) (fun h308 => ?_)
          · refine lv_goto (tgt := 1049) hx hb d_law_313 (by decide) ?_
            exact kk _ _ _ hP hD hS (lv_sub hl [2, 3, 4, 5, 6] rfl)
          · exact absurd ((lg_cmp_eq _ _).mpr (hbv h298)) h308
      · exact absurd hk h291
set_option maxHeartbeats 4000000 in
set_option maxRecDepth 100000 in
theorem lw_find {p : Program} {l : Launch} {e : Env} {s : State} {m : MethodId} {below : List Frame} {meth : Method} {c : Code} {b Ls : Nat} {xs : Nat → Int32} {Q : State → Prop} {D : va_G} {g : Nat → Nat} {k : Nat → ClassId} {L qo i cells slots : Nat} {u u1 : DSt} {f0 f1 : Nat → Int32} {tl tl1 : Nat} {tp tp1 : Nat → Int32} {fo fo1 : Nat → Int64} {r r1 : RSt} {k9 : Int32} {b9 : Int32}
    (C0 : lw_At p s m meth c b Ls xs) (hLs : Ls ≤ 2561) (hXp : xP (fun q => s.heap.size ≤ q) s s.heap) (hK : va_K D cl5 (tyC k) s) (hL0 : 96 ≤ L) (hL : L ≤ 768) (hi : i + 5 ≤ Ls) (hc1 : cells + 1 ≤ 601024) (hs1 : slots + 6 ≤ 7293000) (hrB : rB r1) 
    (hM1 : MuH l y_Law_find w_Law_find ({ frames := 9, cells := 1, slots := 6, locals := 162 }) [.ref (g 9), .int (xs (i + 1)), .int (xs (i + 2)), .ref qo] D cl5 (tyC k) (wX g k L u f0 tl tp qo fo) (wX g k L u1 f1 tl1 tp1 qo fo1) k9) (hM2 : MuI l y_Mod_find w_Mod_find ({ frames := 4, cells := 0, slots := 0, locals := 92 }) [.ref (g 20), .int (xs (i + 1)), .int (xs (i + 2))] D cl5 (tyC k) (wM g k L r) (wM g k L r1) b9) (hk : rTh r1 = k9) (hbv : k9 = 0 → fo1 0 = b9.toInt64)
    (kk : ∀ (H : Heap) (locs : List Loc) (ls : Array Slot), va_P D cl5 (wL g k L u1 f1 tl1 tp1 qo fo1 r1) H → va_D (fun q => s.heap.size ≤ q) (wL g k L u1 f1 tl1 tp1 qo fo1 r1) → va_S (fun q => s.heap.size ≤ q) s.heap H locs → lv_has ls 8 [(0, .ref b), (1, .ref (g 9)), (2, .ref (g 20)), (3, .ref qo), (4, .int (nI i))] → W p l e room_1 s m #[Value.ref b] below meth c H locs (cells + 1) (slots + 6) Q (F0 m 1049 ls []))
    (H : Heap) (locs : List Loc) (ls : Array Slot) (hP : va_P D cl5 (wL g k L u f0 tl tp qo fo r) H) (hD : va_D (fun q => s.heap.size ≤ q) (wL g k L u f0 tl tp qo fo r)) (hS : va_S (fun q => s.heap.size ≤ q) s.heap H locs) (hl : lv_has ls 8 [(0, .ref b), (1, .ref (g 9)), (2, .ref (g 20)), (3, .ref qo), (4, .int (nI i))]) : W p l e room_1 s m #[Value.ref b] below meth c H locs cells slots Q (F0 m 316 ls []) := by
  obtain ⟨hx, hb, hr, hml, hown, hts, hXs, hbl, hlocks, hgv⟩ := C0
  have hTB : ∀ w ∈ lw_tb, w.before #[Value.ref b] s = true := fun w h => hts w (List.mem_filter.mp h).1
  have hA : ∀ q : Nat, s.heap.size ≤ q → (fun q : Nat => s.heap.size ≤ q) q := fun _ h => h
  have hbA : ¬ (fun q : Nat => s.heap.size ≤ q) b := Nat.not_le.mpr hbl
  generalize hAe : (fun q : Nat => s.heap.size ≤ q) = A at *
  refine lv_aload_n hx hb d_law_316 rfl (lv_at hl 1 rfl) ?_
  refine lv_aload_n hx hb d_law_317 rfl (lv_at hl 0 rfl) ?_
  refine lv_iload hx hb d_law_318 (lv_at hl 4 rfl) ?_
  refine lv_iconst (v := nI 1) hx hb d_law_320 (by decide +kernel) ?_
  refine gz_iadd hx hb d_law_321 ?_
  refine gz_sld hx hb hXs hbl hbA hS (i := i + 1) (by omega) (by omega) d_law_322 ?_
  refine lv_aload_n hx hb d_law_323 rfl (lv_at hl 0 rfl) ?_
  refine lv_iload hx hb d_law_324 (lv_at hl 4 rfl) ?_
  refine lv_iconst (v := nI 2) hx hb d_law_326 (by decide +kernel) ?_
  refine gz_iadd hx hb d_law_327 ?_
  refine gz_sld hx hb hXs hbl hbA hS (i := i + 2) (by omega) (by omega) d_law_328 ?_
  refine lv_aload_n hx hb d_law_329 rfl (lv_at hl 3 rfl) ?_
  refine gz_hI (As := [.ref (g 9), .int (xs (i + 1)), .int (xs (i + 2)), .ref qo]) (rest := []) (wc := (wX g k L u f0 tl tp qo fo)) (w1 := (wX g k L u1 f1 tl1 tp1 qo fo1)) (wr := (wM g k L r)) ⟨hx, hb, hml, hown, hTB⟩ hM1 (vx_cwSW 4 hTB (gd_SW k_439 k_440 k_50 k_50 kc_find) rfl rfl rfl (by decide +kernel) ⟨Nat.le_of_ble_eq_true rfl, Nat.le_of_ble_eq_true rfl⟩) hXp hK hP hD hA [0, 1, 2, 3, 4, 5, 6, 7, 8, 9, 10, 11] [12, 13, 14, 15, 16, 17, 18, 19, 20, 21, 22] rfl rfl (by decide) rfl (by decide) (by decide) rfl hl.1 rfl (Nat.le_of_ble_eq_true rfl) d_law_330 ⟨hc1, hs1⟩ hS (fun H locs hP hD hS => ?_)
  have hP : va_P D cl5 (wL g k L u1 f1 tl1 tp1 qo fo1 r) H := hP.sub [11, 12, 13, 14, 15, 16, 17, 18, 19, 20, 21, 22, 0, 1, 2, 3, 4, 5, 6, 7, 8, 9, 10] rfl
  have hD : va_D A (wL g k L u1 f1 tl1 tp1 qo fo1 r) := hD.sub [11, 12, 13, 14, 15, 16, 17, 18, 19, 20, 21, 22, 0, 1, 2, 3, 4, 5, 6, 7, 8, 9, 10] (by decide) rfl
  refine lv_istore (lv' := [(5, .int (k9)), (0, .ref b), (1, .ref (g 9)), (2, .ref (g 20)), (3, .ref qo), (4, .int (nI i))]) hx hb d_law_333 hl (by decide) rfl (fun ls hl => ?_)
  refine lv_aload_n hx hb d_law_335 rfl (lv_at hl 3 rfl) ?_
  refine lv_aload_n hx hb d_law_336 rfl (lv_at hl 1 rfl) ?_
  refine lv_iload hx hb d_law_337 (lv_at hl 5 rfl) ?_
  refine lv_iconst (v := nI 1) hx hb d_law_339 (by decide +kernel) ?_
  refine gz_iadd hx hb d_law_340 ?_
  refine gz_sld hx hb hXs hbl hbA hS (i := i + 1) (by omega) (by omega) d_law_341 ?_
  refine lv_aload_n hx hb d_law_342 rfl (lv_at hl 1 rfl) ?_
  refine lv_iload hx hb d_law_343 (lv_at hl 5 rfl) ?_
  refine lv_iconst (v := nI 2) hx hb d_law_345 (by decide +kernel) ?_
  refine gz_iadd hx hb d_law_346 ?_
  refine gz_sld hx hb hXs hbl hbA hS (i := i + 2) (by omega) (by omega) d_law_347 ?_
  refine gz_muI (As := [.int (xs (i + 1)), .int (xs (i + 2))]) (rest := []) (wc := (wM g k L r)) (w1 := (wM g k L r1)) (wr := (wX g k L u1 f1 tl1 tp1 qo fo1)) ⟨hx, hb, hml, hown, hTB⟩ hM2 (cwV 2 hTB (gd_V k_826 k_827 k_828 k_56 k_829) rfl rfl rfl (by decide +kernel) ⟨Nat.le_of_ble_eq_true rfl, Nat.le_of_ble_eq_true rfl⟩) hK hP hD hA [12, 13, 14, 15, 16, 17, 18, 19, 20, 21, 22] [0, 1, 2, 3, 4, 5, 6, 7, 8, 9, 10, 11] rfl rfl (by decide) rfl (by decide) (by decide) 12 rfl rfl rfl hl.1 rfl (Nat.le_of_ble_eq_true rfl) d_law_348 ⟨hc1, hs1⟩ hS (fun H locs hP hD hS => ?_)
  have hP : va_P D cl5 (wL g k L u1 f1 tl1 tp1 qo fo1 r1) H := hP.sub [0, 1, 2, 3, 4, 5, 6, 7, 8, 9, 10, 11, 12, 13, 14, 15, 16, 17, 18, 19, 20, 21, 22] rfl
  have hD : va_D A (wL g k L u1 f1 tl1 tp1 qo fo1 r1) := hD.sub [0, 1, 2, 3, 4, 5, 6, 7, 8, 9, 10, 11, 12, 13, 14, 15, 16, 17, 18, 19, 20, 21, 22] (by decide) rfl
  refine lv_istore (lv' := [(6, .int (b9)), (5, .int (k9)), (0, .ref b), (1, .ref (g 9)), (2, .ref (g 20)), (3, .ref qo), (4, .int (nI i))]) hx hb d_law_351 hl (by decide) rfl (fun ls hl => ?_)
  refine lv_aload_n hx hb d_law_353 rfl (lv_at hl 4 rfl) ?_
  refine gz_roV (As := []) (rest := []) (wc := (wM g k L r1)) ⟨hx, hb, hml, hown, hTB⟩ (c_Mod_thrown l D g k L hL0 hL r1 hrB) (cwV 0 hTB (gd_V k_687 k_688 k_689 k_56 k_690) rfl rfl rfl (by decide +kernel) ⟨Nat.le_of_ble_eq_true rfl, Nat.le_of_ble_eq_true rfl⟩) hK hP [12, 13, 14, 15, 16, 17, 18, 19, 20, 21, 22] rfl 12 rfl rfl rfl hl.1 rfl (Nat.le_of_ble_eq_true rfl) d_law_354 ⟨hc1, hs1⟩ hS (fun H locs hP hS => ?_)
  refine lv_iload hx hb d_law_357 (lv_at hl 1 rfl) ?_
  refine lv_icmp_eq (tgt := 364) hx hb d_law_359 (by decide) (fun h359 => ?_) (fun h359 => ?_)
  · refine lv_iload hx hb d_law_364 (lv_at hl 1 rfl) ?_
    refine lv_if_ne (tgt := 381) hx hb d_law_366 (by decide) (fun h366 => ?_) (fun h366 => ?_)
    · refine lv_goto (tgt := 1049) hx hb d_law_381 (by decide) ?_
      exact kk _ _ _ hP hD hS (lv_sub hl [2, 3, 4, 5, 6] rfl)
    · refine lv_aload_n hx hb d_law_369 rfl (lv_at hl 5 rfl) ?_
      refine lv_iconst (v := nI 0) hx hb d_law_370 (by decide +kernel) ?_
      refine gz_lald hx hb hK hP 11 0 rfl rfl (i := 0) (by omega) (by omega) d_law_371 ?_
      refine lv_iload hx hb d_law_372 (lv_at hl 0 rfl) ?_
      refine lv_i2l hx hb d_law_374 rfl ?_
      refine W.lcmp hx hb d_law_375 ?_
      refine lv_if_eq (tgt := 381) hx hb d_law_376 (by decide) (fun h376 => ?_) (fun h376 => ?_)
      · refine lv_goto (tgt := 1049) hx hb d_law_381 (by decide) ?_
        exact kk _ _ _ hP hD hS (lv_sub hl [2, 3, 4, 5, 6] rfl)
      · exact absurd ((lg_cmp_eq _ _).mpr (hbv h366)) h376
  · exact absurd hk h359
set_option maxHeartbeats 4000000 in
set_option maxRecDepth 100000 in
theorem lw_write {p : Program} {l : Launch} {e : Env} {s : State} {m : MethodId} {below : List Frame} {meth : Method} {c : Code} {b Ls : Nat} {xs : Nat → Int32} {Q : State → Prop} {D : va_G} {g : Nat → Nat} {k : Nat → ClassId} {L qo i cells slots : Nat} {u u1 : DSt} {f0 f1 : Nat → Int32} {tl tl1 : Nat} {tp tp1 : Nat → Int32} {fo fo1 : Nat → Int64} {r r1 : RSt} {k9 : Int32} {b9 : Int32}
    (C0 : lw_At p s m meth c b Ls xs) (hLs : Ls ≤ 2561) (hXp : xP (fun q => s.heap.size ≤ q) s s.heap) (hK : va_K D cl5 (tyC k) s) (hL0 : 96 ≤ L) (hL : L ≤ 768) (hi : i + 5 ≤ Ls) (hc1 : cells + 1 ≤ 601024) (hs1 : slots + 6 ≤ 7293000) (hrB : rB r1) 
    (hM1 : MuH l y_Law_write w_Law_write ({ frames := 9, cells := 1, slots := 6, locals := 206 }) [.ref (g 9), .int (xs (i + 1)), .int (xs (i + 2)), .ref qo] D cl5 (tyC k) (wX g k L u f0 tl tp qo fo) (wX g k L u1 f1 tl1 tp1 qo fo1) k9) (hM2 : MuI l y_Mod_write w_Mod_write ({ frames := 8, cells := 0, slots := 0, locals := 196 }) [.ref (g 20), .int (xs (i + 1)), .int (xs (i + 2))] D cl5 (tyC k) (wM g k L r) (wM g k L r1) b9) (hk : rTh r1 = k9) (hbv : k9 = 0 → fo1 0 = b9.toInt64)
    (kk : ∀ (H : Heap) (locs : List Loc) (ls : Array Slot), va_P D cl5 (wL g k L u1 f1 tl1 tp1 qo fo1 r1) H → va_D (fun q => s.heap.size ≤ q) (wL g k L u1 f1 tl1 tp1 qo fo1 r1) → va_S (fun q => s.heap.size ≤ q) s.heap H locs → lv_has ls 8 [(0, .ref b), (1, .ref (g 9)), (2, .ref (g 20)), (3, .ref qo), (4, .int (nI i))] → W p l e room_1 s m #[Value.ref b] below meth c H locs (cells + 1) (slots + 6) Q (F0 m 1049 ls []))
    (H : Heap) (locs : List Loc) (ls : Array Slot) (hP : va_P D cl5 (wL g k L u f0 tl tp qo fo r) H) (hD : va_D (fun q => s.heap.size ≤ q) (wL g k L u f0 tl tp qo fo r)) (hS : va_S (fun q => s.heap.size ≤ q) s.heap H locs) (hl : lv_has ls 8 [(0, .ref b), (1, .ref (g 9)), (2, .ref (g 20)), (3, .ref qo), (4, .int (nI i))]) : W p l e room_1 s m #[Value.ref b] below meth c H locs cells slots Q (F0 m 384 ls []) := by
  obtain ⟨hx, hb, hr, hml, hown, hts, hXs, hbl, hlocks, hgv⟩ := C0
  have hTB : ∀ w ∈ lw_tb, w.before #[Value.ref b] s = true := fun w h => hts w (List.mem_filter.mp h).1
  have hA : ∀ q : Nat, s.heap.size ≤ q → (fun q : Nat => s.heap.size ≤ q) q := fun _ h => h
  have hbA : ¬ (fun q : Nat => s.heap.size ≤ q) b := Nat.not_le.mpr hbl
  generalize hAe : (fun q : Nat => s.heap.size ≤ q) = A at *
  refine lv_aload_n hx hb d_law_384 rfl (lv_at hl 1 rfl) ?_
  refine lv_aload_n hx hb d_law_385 rfl (lv_at hl 0 rfl) ?_
  refine lv_iload hx hb d_law_386 (lv_at hl 4 rfl) ?_
  refine lv_iconst (v := nI 1) hx hb d_law_388 (by decide +kernel) ?_
  refine gz_iadd hx hb d_law_389 ?_
  refine gz_sld hx hb hXs hbl hbA hS (i := i + 1) (by omega) (by omega) d_law_390 ?_
  refine lv_aload_n hx hb d_law_391 rfl (lv_at hl 0 rfl) ?_
  refine lv_iload hx hb d_law_392 (lv_at hl 4 rfl) ?_
  refine lv_iconst (v := nI 2) hx hb d_law_394 (by decide +kernel) ?_
  refine gz_iadd hx hb d_law_395 ?_
  refine gz_sld hx hb hXs hbl hbA hS (i := i + 2) (by omega) (by omega) d_law_396 ?_
  refine lv_aload_n hx hb d_law_397 rfl (lv_at hl 3 rfl) ?_
  refine gz_hI (As := [.ref (g 9), .int (xs (i + 1)), .int (xs (i + 2)), .ref qo]) (rest := []) (wc := (wX g k L u f0 tl tp qo fo)) (w1 := (wX g k L u1 f1 tl1 tp1 qo fo1)) (wr := (wM g k L r)) ⟨hx, hb, hml, hown, hTB⟩ hM1 (vx_cwSW 4 hTB (gd_SW k_455 k_456 k_50 k_50 kc_write) rfl rfl rfl (by decide +kernel) ⟨Nat.le_of_ble_eq_true rfl, Nat.le_of_ble_eq_true rfl⟩) hXp hK hP hD hA [0, 1, 2, 3, 4, 5, 6, 7, 8, 9, 10, 11] [12, 13, 14, 15, 16, 17, 18, 19, 20, 21, 22] rfl rfl (by decide) rfl (by decide) (by decide) rfl hl.1 rfl (Nat.le_of_ble_eq_true rfl) d_law_398 ⟨hc1, hs1⟩ hS (fun H locs hP hD hS => ?_)
  have hP : va_P D cl5 (wL g k L u1 f1 tl1 tp1 qo fo1 r) H := hP.sub [11, 12, 13, 14, 15, 16, 17, 18, 19, 20, 21, 22, 0, 1, 2, 3, 4, 5, 6, 7, 8, 9, 10] rfl
  have hD : va_D A (wL g k L u1 f1 tl1 tp1 qo fo1 r) := hD.sub [11, 12, 13, 14, 15, 16, 17, 18, 19, 20, 21, 22, 0, 1, 2, 3, 4, 5, 6, 7, 8, 9, 10] (by decide) rfl
  refine lv_istore (lv' := [(5, .int (k9)), (0, .ref b), (1, .ref (g 9)), (2, .ref (g 20)), (3, .ref qo), (4, .int (nI i))]) hx hb d_law_401 hl (by decide) rfl (fun ls hl => ?_)
  refine lv_aload_n hx hb d_law_403 rfl (lv_at hl 3 rfl) ?_
  refine lv_aload_n hx hb d_law_404 rfl (lv_at hl 1 rfl) ?_
  refine lv_iload hx hb d_law_405 (lv_at hl 5 rfl) ?_
  refine lv_iconst (v := nI 1) hx hb d_law_407 (by decide +kernel) ?_
  refine gz_iadd hx hb d_law_408 ?_
  refine gz_sld hx hb hXs hbl hbA hS (i := i + 1) (by omega) (by omega) d_law_409 ?_
  refine lv_aload_n hx hb d_law_410 rfl (lv_at hl 1 rfl) ?_
  refine lv_iload hx hb d_law_411 (lv_at hl 5 rfl) ?_
  refine lv_iconst (v := nI 2) hx hb d_law_413 (by decide +kernel) ?_
  refine gz_iadd hx hb d_law_414 ?_
  refine gz_sld hx hb hXs hbl hbA hS (i := i + 2) (by omega) (by omega) d_law_415 ?_
  refine gz_muI (As := [.int (xs (i + 1)), .int (xs (i + 2))]) (rest := []) (wc := (wM g k L r)) (w1 := (wM g k L r1)) (wr := (wX g k L u1 f1 tl1 tp1 qo fo1)) ⟨hx, hb, hml, hown, hTB⟩ hM2 (cwV 2 hTB (gd_V k_830 k_831 k_832 k_56 k_833) rfl rfl rfl (by decide +kernel) ⟨Nat.le_of_ble_eq_true rfl, Nat.le_of_ble_eq_true rfl⟩) hK hP hD hA [12, 13, 14, 15, 16, 17, 18, 19, 20, 21, 22] [0, 1, 2, 3, 4, 5, 6, 7, 8, 9, 10, 11] rfl rfl (by decide) rfl (by decide) (by decide) 12 rfl rfl rfl hl.1 rfl (Nat.le_of_ble_eq_true rfl) d_law_416 ⟨hc1, hs1⟩ hS (fun H locs hP hD hS => ?_)
  have hP : va_P D cl5 (wL g k L u1 f1 tl1 tp1 qo fo1 r1) H := hP.sub [0, 1, 2, 3, 4, 5, 6, 7, 8, 9, 10, 11, 12, 13, 14, 15, 16, 17, 18, 19, 20, 21, 22] rfl
  have hD : va_D A (wL g k L u1 f1 tl1 tp1 qo fo1 r1) := hD.sub [0, 1, 2, 3, 4, 5, 6, 7, 8, 9, 10, 11, 12, 13, 14, 15, 16, 17, 18, 19, 20, 21, 22] (by decide) rfl
  refine lv_istore (lv' := [(6, .int (b9)), (5, .int (k9)), (0, .ref b), (1, .ref (g 9)), (2, .ref (g 20)), (3, .ref qo), (4, .int (nI i))]) hx hb d_law_419 hl (by decide) rfl (fun ls hl => ?_)
  refine lv_aload_n hx hb d_law_421 rfl (lv_at hl 4 rfl) ?_
  refine gz_roV (As := []) (rest := []) (wc := (wM g k L r1)) ⟨hx, hb, hml, hown, hTB⟩ (c_Mod_thrown l D g k L hL0 hL r1 hrB) (cwV 0 hTB (gd_V k_687 k_688 k_689 k_56 k_690) rfl rfl rfl (by decide +kernel) ⟨Nat.le_of_ble_eq_true rfl, Nat.le_of_ble_eq_true rfl⟩) hK hP [12, 13, 14, 15, 16, 17, 18, 19, 20, 21, 22] rfl 12 rfl rfl rfl hl.1 rfl (Nat.le_of_ble_eq_true rfl) d_law_422 ⟨hc1, hs1⟩ hS (fun H locs hP hS => ?_)
  refine lv_iload hx hb d_law_425 (lv_at hl 1 rfl) ?_
  refine lv_icmp_eq (tgt := 432) hx hb d_law_427 (by decide) (fun h427 => ?_) (fun h427 => ?_)
  · refine lv_iload hx hb d_law_432 (lv_at hl 1 rfl) ?_
    refine lv_if_ne (tgt := 449) hx hb d_law_434 (by decide) (fun h434 => ?_) (fun h434 => ?_)
    · refine lv_goto (tgt := 1049) hx hb d_law_449 (by decide) ?_
      exact kk _ _ _ hP hD hS (lv_sub hl [2, 3, 4, 5, 6] rfl)
    · refine lv_aload_n hx hb d_law_437 rfl (lv_at hl 5 rfl) ?_
      refine lv_iconst (v := nI 0) hx hb d_law_438 (by decide +kernel) ?_
      refine gz_lald hx hb hK hP 11 0 rfl rfl (i := 0) (by omega) (by omega) d_law_439 ?_
      refine lv_iload hx hb d_law_440 (lv_at hl 0 rfl) ?_
      refine lv_i2l hx hb d_law_442 rfl ?_
      refine W.lcmp hx hb d_law_443 ?_
      refine lv_if_eq (tgt := 449) hx hb d_law_444 (by decide) (fun h444 => ?_) (fun h444 => ?_)
      · refine lv_goto (tgt := 1049) hx hb d_law_449 (by decide) ?_
        exact kk _ _ _ hP hD hS (lv_sub hl [2, 3, 4, 5, 6] rfl)
      · exact absurd ((lg_cmp_eq _ _).mpr (hbv h434)) h444
  · exact absurd hk h427
set_option maxHeartbeats 4000000 in
set_option maxRecDepth 100000 in
theorem lw_cut {p : Program} {l : Launch} {e : Env} {s : State} {m : MethodId} {below : List Frame} {meth : Method} {c : Code} {b Ls : Nat} {xs : Nat → Int32} {Q : State → Prop} {D : va_G} {g : Nat → Nat} {k : Nat → ClassId} {L qo i cells slots : Nat} {u u1 : DSt} {f0 f1 : Nat → Int32} {tl tl1 : Nat} {tp tp1 : Nat → Int32} {fo fo1 : Nat → Int64} {r r1 : RSt} {k9 : Int32} {b9 : Int32}
    (C0 : lw_At p s m meth c b Ls xs) (hLs : Ls ≤ 2561) (hXp : xP (fun q => s.heap.size ≤ q) s s.heap) (hK : va_K D cl5 (tyC k) s) (hL0 : 96 ≤ L) (hL : L ≤ 768) (hi : i + 5 ≤ Ls) (hc1 : cells + 1 ≤ 601024) (hs1 : slots + 6 ≤ 7293000) (hrB : rB r1) 
    (hM1 : MuH l y_Law_cut w_Law_cut ({ frames := 9, cells := 1, slots := 6, locals := 202 }) [.ref (g 9), .int (xs (i + 1)), .int (xs (i + 2)), .ref qo] D cl5 (tyC k) (wX g k L u f0 tl tp qo fo) (wX g k L u1 f1 tl1 tp1 qo fo1) k9) (hM2 : MuI l y_Mod_cut w_Mod_cut ({ frames := 8, cells := 0, slots := 0, locals := 196 }) [.ref (g 20), .int (xs (i + 1)), .int (xs (i + 2))] D cl5 (tyC k) (wM g k L r) (wM g k L r1) b9) (hk : rTh r1 = k9) (hbv : k9 = 0 → fo1 0 = b9.toInt64)
    (kk : ∀ (H : Heap) (locs : List Loc) (ls : Array Slot), va_P D cl5 (wL g k L u1 f1 tl1 tp1 qo fo1 r1) H → va_D (fun q => s.heap.size ≤ q) (wL g k L u1 f1 tl1 tp1 qo fo1 r1) → va_S (fun q => s.heap.size ≤ q) s.heap H locs → lv_has ls 8 [(0, .ref b), (1, .ref (g 9)), (2, .ref (g 20)), (3, .ref qo), (4, .int (nI i))] → W p l e room_1 s m #[Value.ref b] below meth c H locs (cells + 1) (slots + 6) Q (F0 m 1049 ls []))
    (H : Heap) (locs : List Loc) (ls : Array Slot) (hP : va_P D cl5 (wL g k L u f0 tl tp qo fo r) H) (hD : va_D (fun q => s.heap.size ≤ q) (wL g k L u f0 tl tp qo fo r)) (hS : va_S (fun q => s.heap.size ≤ q) s.heap H locs) (hl : lv_has ls 8 [(0, .ref b), (1, .ref (g 9)), (2, .ref (g 20)), (3, .ref qo), (4, .int (nI i))]) : W p l e room_1 s m #[Value.ref b] below meth c H locs cells slots Q (F0 m 452 ls []) := by
  obtain ⟨hx, hb, hr, hml, hown, hts, hXs, hbl, hlocks, hgv⟩ := C0
  have hTB : ∀ w ∈ lw_tb, w.before #[Value.ref b] s = true := fun w h => hts w (List.mem_filter.mp h).1
  have hA : ∀ q : Nat, s.heap.size ≤ q → (fun q : Nat => s.heap.size ≤ q) q := fun _ h => h
  have hbA : ¬ (fun q : Nat => s.heap.size ≤ q) b := Nat.not_le.mpr hbl
  generalize hAe : (fun q : Nat => s.heap.size ≤ q) = A at *
  refine lv_aload_n hx hb d_law_452 rfl (lv_at hl 1 rfl) ?_
  refine lv_aload_n hx hb d_law_453 rfl (lv_at hl 0 rfl) ?_
  refine lv_iload hx hb d_law_454 (lv_at hl 4 rfl) ?_
  refine lv_iconst (v := nI 1) hx hb d_law_456 (by decide +kernel) ?_
  refine gz_iadd hx hb d_law_457 ?_
  refine gz_sld hx hb hXs hbl hbA hS (i := i + 1) (by omega) (by omega) d_law_458 ?_
  refine lv_aload_n hx hb d_law_459 rfl (lv_at hl 0 rfl) ?_
  refine lv_iload hx hb d_law_460 (lv_at hl 4 rfl) ?_
  refine lv_iconst (v := nI 2) hx hb d_law_462 (by decide +kernel) ?_
  refine gz_iadd hx hb d_law_463 ?_
  refine gz_sld hx hb hXs hbl hbA hS (i := i + 2) (by omega) (by omega) d_law_464 ?_
  refine lv_aload_n hx hb d_law_465 rfl (lv_at hl 3 rfl) ?_
  refine gz_hI (As := [.ref (g 9), .int (xs (i + 1)), .int (xs (i + 2)), .ref qo]) (rest := []) (wc := (wX g k L u f0 tl tp qo fo)) (w1 := (wX g k L u1 f1 tl1 tp1 qo fo1)) (wr := (wM g k L r)) ⟨hx, hb, hml, hown, hTB⟩ hM1 (vx_cwSW 4 hTB (gd_SW k_469 k_470 k_50 k_50 kc_cut) rfl rfl rfl (by decide +kernel) ⟨Nat.le_of_ble_eq_true rfl, Nat.le_of_ble_eq_true rfl⟩) hXp hK hP hD hA [0, 1, 2, 3, 4, 5, 6, 7, 8, 9, 10, 11] [12, 13, 14, 15, 16, 17, 18, 19, 20, 21, 22] rfl rfl (by decide) rfl (by decide) (by decide) rfl hl.1 rfl (Nat.le_of_ble_eq_true rfl) d_law_466 ⟨hc1, hs1⟩ hS (fun H locs hP hD hS => ?_)
  have hP : va_P D cl5 (wL g k L u1 f1 tl1 tp1 qo fo1 r) H := hP.sub [11, 12, 13, 14, 15, 16, 17, 18, 19, 20, 21, 22, 0, 1, 2, 3, 4, 5, 6, 7, 8, 9, 10] rfl
  have hD : va_D A (wL g k L u1 f1 tl1 tp1 qo fo1 r) := hD.sub [11, 12, 13, 14, 15, 16, 17, 18, 19, 20, 21, 22, 0, 1, 2, 3, 4, 5, 6, 7, 8, 9, 10] (by decide) rfl
  refine lv_istore (lv' := [(5, .int (k9)), (0, .ref b), (1, .ref (g 9)), (2, .ref (g 20)), (3, .ref qo), (4, .int (nI i))]) hx hb d_law_469 hl (by decide) rfl (fun ls hl => ?_)
  refine lv_aload_n hx hb d_law_471 rfl (lv_at hl 3 rfl) ?_
  refine lv_aload_n hx hb d_law_472 rfl (lv_at hl 1 rfl) ?_
  refine lv_iload hx hb d_law_473 (lv_at hl 5 rfl) ?_
  refine lv_iconst (v := nI 1) hx hb d_law_475 (by decide +kernel) ?_
  refine gz_iadd hx hb d_law_476 ?_
  refine gz_sld hx hb hXs hbl hbA hS (i := i + 1) (by omega) (by omega) d_law_477 ?_
  refine lv_aload_n hx hb d_law_478 rfl (lv_at hl 1 rfl) ?_
  refine lv_iload hx hb d_law_479 (lv_at hl 5 rfl) ?_
  refine lv_iconst (v := nI 2) hx hb d_law_481 (by decide +kernel) ?_
  refine gz_iadd hx hb d_law_482 ?_
  refine gz_sld hx hb hXs hbl hbA hS (i := i + 2) (by omega) (by omega) d_law_483 ?_
  refine gz_muI (As := [.int (xs (i + 1)), .int (xs (i + 2))]) (rest := []) (wc := (wM g k L r)) (w1 := (wM g k L r1)) (wr := (wX g k L u1 f1 tl1 tp1 qo fo1)) ⟨hx, hb, hml, hown, hTB⟩ hM2 (cwV 2 hTB (gd_V k_834 k_835 k_836 k_56 k_837) rfl rfl rfl (by decide +kernel) ⟨Nat.le_of_ble_eq_true rfl, Nat.le_of_ble_eq_true rfl⟩) hK hP hD hA [12, 13, 14, 15, 16, 17, 18, 19, 20, 21, 22] [0, 1, 2, 3, 4, 5, 6, 7, 8, 9, 10, 11] rfl rfl (by decide) rfl (by decide) (by decide) 12 rfl rfl rfl hl.1 rfl (Nat.le_of_ble_eq_true rfl) d_law_484 ⟨hc1, hs1⟩ hS (fun H locs hP hD hS => ?_)
  have hP : va_P D cl5 (wL g k L u1 f1 tl1 tp1 qo fo1 r1) H := hP.sub [0, 1, 2, 3, 4, 5, 6, 7, 8, 9, 10, 11, 12, 13, 14, 15, 16, 17, 18, 19, 20, 21, 22] rfl
  have hD : va_D A (wL g k L u1 f1 tl1 tp1 qo fo1 r1) := hD.sub [0, 1, 2, 3, 4, 5, 6, 7, 8, 9, 10, 11, 12, 13, 14, 15, 16, 17, 18, 19, 20, 21, 22] (by decide) rfl
  refine lv_istore (lv' := [(6, .int (b9)), (5, .int (k9)), (0, .ref b), (1, .ref (g 9)), (2, .ref (g 20)), (3, .ref qo), (4, .int (nI i))]) hx hb d_law_487 hl (by decide) rfl (fun ls hl => ?_)
  refine lv_aload_n hx hb d_law_489 rfl (lv_at hl 4 rfl) ?_
  refine gz_roV (As := []) (rest := []) (wc := (wM g k L r1)) ⟨hx, hb, hml, hown, hTB⟩ (c_Mod_thrown l D g k L hL0 hL r1 hrB) (cwV 0 hTB (gd_V k_687 k_688 k_689 k_56 k_690) rfl rfl rfl (by decide +kernel) ⟨Nat.le_of_ble_eq_true rfl, Nat.le_of_ble_eq_true rfl⟩) hK hP [12, 13, 14, 15, 16, 17, 18, 19, 20, 21, 22] rfl 12 rfl rfl rfl hl.1 rfl (Nat.le_of_ble_eq_true rfl) d_law_490 ⟨hc1, hs1⟩ hS (fun H locs hP hS => ?_)
  refine lv_iload hx hb d_law_493 (lv_at hl 1 rfl) ?_
  refine lv_icmp_eq (tgt := 500) hx hb d_law_495 (by decide) (fun h495 => ?_) (fun h495 => ?_)
  · refine lv_iload hx hb d_law_500 (lv_at hl 1 rfl) ?_
    refine lv_if_ne (tgt := 517) hx hb d_law_502 (by decide) (fun h502 => ?_) (fun h502 => ?_)
    · refine lv_goto (tgt := 1049) hx hb d_law_517 (by decide) ?_
      exact kk _ _ _ hP hD hS (lv_sub hl [2, 3, 4, 5, 6] rfl)
    · refine lv_aload_n hx hb d_law_505 rfl (lv_at hl 5 rfl) ?_
      refine lv_iconst (v := nI 0) hx hb d_law_506 (by decide +kernel) ?_
      refine gz_lald hx hb hK hP 11 0 rfl rfl (i := 0) (by omega) (by omega) d_law_507 ?_
      refine lv_iload hx hb d_law_508 (lv_at hl 0 rfl) ?_
      refine lv_i2l hx hb d_law_510 rfl ?_
      refine W.lcmp hx hb d_law_511 ?_
      refine lv_if_eq (tgt := 517) hx hb d_law_512 (by decide) (fun h512 => ?_) (fun h512 => ?_)
      · refine lv_goto (tgt := 1049) hx hb d_law_517 (by decide) ?_
        exact kk _ _ _ hP hD hS (lv_sub hl [2, 3, 4, 5, 6] rfl)
      · exact absurd ((lg_cmp_eq _ _).mpr (hbv h502)) h512
  · exact absurd hk h495
set_option maxHeartbeats 4000000 in
set_option maxRecDepth 100000 in
theorem lw_read {p : Program} {l : Launch} {e : Env} {s : State} {m : MethodId} {below : List Frame} {meth : Method} {c : Code} {b Ls : Nat} {xs : Nat → Int32} {Q : State → Prop} {D : va_G} {g : Nat → Nat} {k : Nat → ClassId} {L qo i cells slots : Nat} {u u1 : DSt} {f0 f1 : Nat → Int32} {tl tl1 : Nat} {tp tp1 : Nat → Int32} {fo fo1 : Nat → Int64} {r r1 : RSt} {k9 : Int32} {b9 : Int64}
    (C0 : lw_At p s m meth c b Ls xs) (hLs : Ls ≤ 2561) (hXp : xP (fun q => s.heap.size ≤ q) s s.heap) (hK : va_K D cl5 (tyC k) s) (hL0 : 96 ≤ L) (hL : L ≤ 768) (hi : i + 5 ≤ Ls) (hc1 : cells + 1 ≤ 601024) (hs1 : slots + 6 ≤ 7293000) (hrB : rB r1) 
    (hM1 : MuH l y_Law_read w_Law_read ({ frames := 9, cells := 1, slots := 6, locals := 155 }) [.ref (g 9), .int (xs (i + 1)), .int (xs (i + 2)), .ref qo] D cl5 (tyC k) (wX g k L u f0 tl tp qo fo) (wX g k L u1 f1 tl1 tp1 qo fo1) k9) (hM2 : MuL l y_Mod_read w_Mod_read ({ frames := 2, cells := 0, slots := 0, locals := 47 }) [.ref (g 20), .int (xs (i + 1)), .int (xs (i + 2))] D cl5 (tyC k) (wM g k L r) (wM g k L r1) b9) (hk : rTh r1 = k9) (hbv : k9 = 0 → fo1 0 = b9)
    (kk : ∀ (H : Heap) (locs : List Loc) (ls : Array Slot), va_P D cl5 (wL g k L u1 f1 tl1 tp1 qo fo1 r1) H → va_D (fun q => s.heap.size ≤ q) (wL g k L u1 f1 tl1 tp1 qo fo1 r1) → va_S (fun q => s.heap.size ≤ q) s.heap H locs → lv_has ls 8 [(0, .ref b), (1, .ref (g 9)), (2, .ref (g 20)), (3, .ref qo), (4, .int (nI i))] → W p l e room_1 s m #[Value.ref b] below meth c H locs (cells + 1) (slots + 6) Q (F0 m 1049 ls []))
    (H : Heap) (locs : List Loc) (ls : Array Slot) (hP : va_P D cl5 (wL g k L u f0 tl tp qo fo r) H) (hD : va_D (fun q => s.heap.size ≤ q) (wL g k L u f0 tl tp qo fo r)) (hS : va_S (fun q => s.heap.size ≤ q) s.heap H locs) (hl : lv_has ls 8 [(0, .ref b), (1, .ref (g 9)), (2, .ref (g 20)), (3, .ref qo), (4, .int (nI i))]) : W p l e room_1 s m #[Value.ref b] below meth c H locs cells slots Q (F0 m 520 ls []) := by
  obtain ⟨hx, hb, hr, hml, hown, hts, hXs, hbl, hlocks, hgv⟩ := C0
  have hTB : ∀ w ∈ lw_tb, w.before #[Value.ref b] s = true := fun w h => hts w (List.mem_filter.mp h).1
  have hA : ∀ q : Nat, s.heap.size ≤ q → (fun q : Nat => s.heap.size ≤ q) q := fun _ h => h
  have hbA : ¬ (fun q : Nat => s.heap.size ≤ q) b := Nat.not_le.mpr hbl
  generalize hAe : (fun q : Nat => s.heap.size ≤ q) = A at *
  refine lv_aload_n hx hb d_law_520 rfl (lv_at hl 1 rfl) ?_
  refine lv_aload_n hx hb d_law_521 rfl (lv_at hl 0 rfl) ?_
  refine lv_iload hx hb d_law_522 (lv_at hl 4 rfl) ?_
  refine lv_iconst (v := nI 1) hx hb d_law_524 (by decide +kernel) ?_
  refine gz_iadd hx hb d_law_525 ?_
  refine gz_sld hx hb hXs hbl hbA hS (i := i + 1) (by omega) (by omega) d_law_526 ?_
  refine lv_aload_n hx hb d_law_527 rfl (lv_at hl 0 rfl) ?_
  refine lv_iload hx hb d_law_528 (lv_at hl 4 rfl) ?_
  refine lv_iconst (v := nI 2) hx hb d_law_530 (by decide +kernel) ?_
  refine gz_iadd hx hb d_law_531 ?_
  refine gz_sld hx hb hXs hbl hbA hS (i := i + 2) (by omega) (by omega) d_law_532 ?_
  refine lv_aload_n hx hb d_law_533 rfl (lv_at hl 3 rfl) ?_
  refine gz_hI (As := [.ref (g 9), .int (xs (i + 1)), .int (xs (i + 2)), .ref qo]) (rest := []) (wc := (wX g k L u f0 tl tp qo fo)) (w1 := (wX g k L u1 f1 tl1 tp1 qo fo1)) (wr := (wM g k L r)) ⟨hx, hb, hml, hown, hTB⟩ hM1 (vx_cwSW 4 hTB (gd_SW k_476 k_477 k_50 k_50 kc_read) rfl rfl rfl (by decide +kernel) ⟨Nat.le_of_ble_eq_true rfl, Nat.le_of_ble_eq_true rfl⟩) hXp hK hP hD hA [0, 1, 2, 3, 4, 5, 6, 7, 8, 9, 10, 11] [12, 13, 14, 15, 16, 17, 18, 19, 20, 21, 22] rfl rfl (by decide) rfl (by decide) (by decide) rfl hl.1 rfl (Nat.le_of_ble_eq_true rfl) d_law_534 ⟨hc1, hs1⟩ hS (fun H locs hP hD hS => ?_)
  have hP : va_P D cl5 (wL g k L u1 f1 tl1 tp1 qo fo1 r) H := hP.sub [11, 12, 13, 14, 15, 16, 17, 18, 19, 20, 21, 22, 0, 1, 2, 3, 4, 5, 6, 7, 8, 9, 10] rfl
  have hD : va_D A (wL g k L u1 f1 tl1 tp1 qo fo1 r) := hD.sub [11, 12, 13, 14, 15, 16, 17, 18, 19, 20, 21, 22, 0, 1, 2, 3, 4, 5, 6, 7, 8, 9, 10] (by decide) rfl
  refine lv_istore (lv' := [(5, .int (k9)), (0, .ref b), (1, .ref (g 9)), (2, .ref (g 20)), (3, .ref qo), (4, .int (nI i))]) hx hb d_law_537 hl (by decide) rfl (fun ls hl => ?_)
  refine lv_aload_n hx hb d_law_539 rfl (lv_at hl 3 rfl) ?_
  refine lv_aload_n hx hb d_law_540 rfl (lv_at hl 1 rfl) ?_
  refine lv_iload hx hb d_law_541 (lv_at hl 5 rfl) ?_
  refine lv_iconst (v := nI 1) hx hb d_law_543 (by decide +kernel) ?_
  refine gz_iadd hx hb d_law_544 ?_
  refine gz_sld hx hb hXs hbl hbA hS (i := i + 1) (by omega) (by omega) d_law_545 ?_
  refine lv_aload_n hx hb d_law_546 rfl (lv_at hl 1 rfl) ?_
  refine lv_iload hx hb d_law_547 (lv_at hl 5 rfl) ?_
  refine lv_iconst (v := nI 2) hx hb d_law_549 (by decide +kernel) ?_
  refine gz_iadd hx hb d_law_550 ?_
  refine gz_sld hx hb hXs hbl hbA hS (i := i + 2) (by omega) (by omega) d_law_551 ?_
  refine gz_muL (As := [.int (xs (i + 1)), .int (xs (i + 2))]) (rest := []) (wc := (wM g k L r)) (w1 := (wM g k L r1)) (wr := (wX g k L u1 f1 tl1 tp1 qo fo1)) ⟨hx, hb, hml, hown, hTB⟩ hM2 (cwV 2 hTB (gd_V k_838 k_839 k_840 k_56 k_841) rfl rfl rfl (by decide +kernel) ⟨Nat.le_of_ble_eq_true rfl, Nat.le_of_ble_eq_true rfl⟩) hK hP hD hA [12, 13, 14, 15, 16, 17, 18, 19, 20, 21, 22] [0, 1, 2, 3, 4, 5, 6, 7, 8, 9, 10, 11] rfl rfl (by decide) rfl (by decide) (by decide) 12 rfl rfl rfl hl.1 rfl (Nat.le_of_ble_eq_true rfl) d_law_552 ⟨hc1, hs1⟩ hS (fun H locs hP hD hS => ?_)
  have hP : va_P D cl5 (wL g k L u1 f1 tl1 tp1 qo fo1 r1) H := hP.sub [0, 1, 2, 3, 4, 5, 6, 7, 8, 9, 10, 11, 12, 13, 14, 15, 16, 17, 18, 19, 20, 21, 22] rfl
  have hD : va_D A (wL g k L u1 f1 tl1 tp1 qo fo1 r1) := hD.sub [0, 1, 2, 3, 4, 5, 6, 7, 8, 9, 10, 11, 12, 13, 14, 15, 16, 17, 18, 19, 20, 21, 22] (by decide) rfl
  refine lv_lstore (lv' := [(6, .long (b9)), (5, .int (k9)), (0, .ref b), (1, .ref (g 9)), (2, .ref (g 20)), (3, .ref qo), (4, .int (nI i))]) hx hb d_law_555 hl (by decide) rfl (fun ls hl => ?_)
  refine lv_aload_n hx hb d_law_557 rfl (lv_at hl 4 rfl) ?_
  refine gz_roV (As := []) (rest := []) (wc := (wM g k L r1)) ⟨hx, hb, hml, hown, hTB⟩ (c_Mod_thrown l D g k L hL0 hL r1 hrB) (cwV 0 hTB (gd_V k_687 k_688 k_689 k_56 k_690) rfl rfl rfl (by decide +kernel) ⟨Nat.le_of_ble_eq_true rfl, Nat.le_of_ble_eq_true rfl⟩) hK hP [12, 13, 14, 15, 16, 17, 18, 19, 20, 21, 22] rfl 12 rfl rfl rfl hl.1 rfl (Nat.le_of_ble_eq_true rfl) d_law_558 ⟨hc1, hs1⟩ hS (fun H locs hP hS => ?_)
  refine lv_iload hx hb d_law_561 (lv_at hl 1 rfl) ?_
  refine lv_icmp_eq (tgt := 568) hx hb d_law_563 (by decide) (fun h563 => ?_) (fun h563 => ?_)
  · refine lv_iload hx hb d_law_568 (lv_at hl 1 rfl) ?_
    refine lv_if_ne (tgt := 584) hx hb d_law_570 (by decide) (fun h570 => ?_) (fun h570 => ?_)
    · refine lv_goto (tgt := 1049) hx hb d_law_584 (by decide) ?_
      exact kk _ _ _ hP hD hS (lv_sub hl [2, 3, 4, 5, 6] rfl)
    · refine lv_aload_n hx hb d_law_573 rfl (lv_at hl 5 rfl) ?_
      refine lv_iconst (v := nI 0) hx hb d_law_574 (by decide +kernel) ?_
      refine gz_lald hx hb hK hP 11 0 rfl rfl (i := 0) (by omega) (by omega) d_law_575 ?_
      refine lv_lload hx hb d_law_576 (lv_at hl 0 rfl) ?_
      refine W.lcmp hx hb d_law_578 ?_
      refine lv_if_eq (tgt := 584) hx hb d_law_579 (by decide) (fun h579 => ?_) (fun h579 => ?_)
      · refine lv_goto (tgt := 1049) hx hb d_law_584 (by decide) ?_
        exact kk _ _ _ hP hD hS (lv_sub hl [2, 3, 4, 5, 6] rfl)
      · exact absurd ((lg_cmp_eq _ _).mpr (hbv h570)) h579
  · exact absurd hk h563
set_option maxHeartbeats 4000000 in
set_option maxRecDepth 100000 in
theorem lw_move {p : Program} {l : Launch} {e : Env} {s : State} {m : MethodId} {below : List Frame} {meth : Method} {c : Code} {b Ls : Nat} {xs : Nat → Int32} {Q : State → Prop} {D : va_G} {g : Nat → Nat} {k : Nat → ClassId} {L qo i cells slots : Nat} {u u1 : DSt} {f0 f1 : Nat → Int32} {tl tl1 : Nat} {tp tp1 : Nat → Int32} {fo fo1 : Nat → Int64} {r r1 : RSt} {k9 : Int32} {b9 : Int32}
    (C0 : lw_At p s m meth c b Ls xs) (hLs : Ls ≤ 2561) (hXp : xP (fun q => s.heap.size ≤ q) s s.heap) (hK : va_K D cl5 (tyC k) s) (hL0 : 96 ≤ L) (hL : L ≤ 768) (hi : i + 5 ≤ Ls) (hc1 : cells + 1 ≤ 601024) (hs1 : slots + 6 ≤ 7293000) (hrB : rB r1) 
    (hM1 : MuH l y_Law_move w_Law_move ({ frames := 9, cells := 1, slots := 6, locals := 232 }) [.ref (g 9), .int (xs (i + 1)), .int (xs (i + 2)), .int (xs (i + 3)), .int (xs (i + 4)), .ref qo] D cl5 (tyC k) (wX g k L u f0 tl tp qo fo) (wX g k L u1 f1 tl1 tp1 qo fo1) k9) (hM2 : MuI l y_Mod_move w_Mod_move ({ frames := 8, cells := 0, slots := 0, locals := 196 }) [.ref (g 20), .int (xs (i + 1)), .int (xs (i + 2)), .int (xs (i + 3)), .int (xs (i + 4))] D cl5 (tyC k) (wM g k L r) (wM g k L r1) b9) (hk : rTh r1 = k9) (hbv : k9 = 0 → fo1 0 = b9.toInt64)
    (kk : ∀ (H : Heap) (locs : List Loc) (ls : Array Slot), va_P D cl5 (wL g k L u1 f1 tl1 tp1 qo fo1 r1) H → va_D (fun q => s.heap.size ≤ q) (wL g k L u1 f1 tl1 tp1 qo fo1 r1) → va_S (fun q => s.heap.size ≤ q) s.heap H locs → lv_has ls 8 [(0, .ref b), (1, .ref (g 9)), (2, .ref (g 20)), (3, .ref qo), (4, .int (nI i))] → W p l e room_1 s m #[Value.ref b] below meth c H locs (cells + 1) (slots + 6) Q (F0 m 1049 ls []))
    (H : Heap) (locs : List Loc) (ls : Array Slot) (hP : va_P D cl5 (wL g k L u f0 tl tp qo fo r) H) (hD : va_D (fun q => s.heap.size ≤ q) (wL g k L u f0 tl tp qo fo r)) (hS : va_S (fun q => s.heap.size ≤ q) s.heap H locs) (hl : lv_has ls 8 [(0, .ref b), (1, .ref (g 9)), (2, .ref (g 20)), (3, .ref qo), (4, .int (nI i))]) : W p l e room_1 s m #[Value.ref b] below meth c H locs cells slots Q (F0 m 587 ls []) := by
  obtain ⟨hx, hb, hr, hml, hown, hts, hXs, hbl, hlocks, hgv⟩ := C0
  have hTB : ∀ w ∈ lw_tb, w.before #[Value.ref b] s = true := fun w h => hts w (List.mem_filter.mp h).1
  have hA : ∀ q : Nat, s.heap.size ≤ q → (fun q : Nat => s.heap.size ≤ q) q := fun _ h => h
  have hbA : ¬ (fun q : Nat => s.heap.size ≤ q) b := Nat.not_le.mpr hbl
  generalize hAe : (fun q : Nat => s.heap.size ≤ q) = A at *
  refine lv_aload_n hx hb d_law_587 rfl (lv_at hl 1 rfl) ?_
  refine lv_aload_n hx hb d_law_588 rfl (lv_at hl 0 rfl) ?_
  refine lv_iload hx hb d_law_589 (lv_at hl 4 rfl) ?_
  refine lv_iconst (v := nI 1) hx hb d_law_591 (by decide +kernel) ?_
  refine gz_iadd hx hb d_law_592 ?_
  refine gz_sld hx hb hXs hbl hbA hS (i := i + 1) (by omega) (by omega) d_law_593 ?_
  refine lv_aload_n hx hb d_law_594 rfl (lv_at hl 0 rfl) ?_
  refine lv_iload hx hb d_law_595 (lv_at hl 4 rfl) ?_
  refine lv_iconst (v := nI 2) hx hb d_law_597 (by decide +kernel) ?_
  refine gz_iadd hx hb d_law_598 ?_
  refine gz_sld hx hb hXs hbl hbA hS (i := i + 2) (by omega) (by omega) d_law_599 ?_
  refine lv_aload_n hx hb d_law_600 rfl (lv_at hl 0 rfl) ?_
  refine lv_iload hx hb d_law_601 (lv_at hl 4 rfl) ?_
  refine lv_iconst (v := nI 3) hx hb d_law_603 (by decide +kernel) ?_
  refine gz_iadd hx hb d_law_604 ?_
  refine gz_sld hx hb hXs hbl hbA hS (i := i + 3) (by omega) (by omega) d_law_605 ?_
  refine lv_aload_n hx hb d_law_606 rfl (lv_at hl 0 rfl) ?_
  refine lv_iload hx hb d_law_607 (lv_at hl 4 rfl) ?_
  refine lv_iconst (v := nI 4) hx hb d_law_609 (by decide +kernel) ?_
  refine gz_iadd hx hb d_law_610 ?_
  refine gz_sld hx hb hXs hbl hbA hS (i := i + 4) (by omega) (by omega) d_law_611 ?_
  refine lv_aload_n hx hb d_law_612 rfl (lv_at hl 3 rfl) ?_
  refine gz_hI (As := [.ref (g 9), .int (xs (i + 1)), .int (xs (i + 2)), .int (xs (i + 3)), .int (xs (i + 4)), .ref qo]) (rest := []) (wc := (wX g k L u f0 tl tp qo fo)) (w1 := (wX g k L u1 f1 tl1 tp1 qo fo1)) (wr := (wM g k L r)) ⟨hx, hb, hml, hown, hTB⟩ hM1 (vx_cwSW 6 hTB (gd_SW k_501 k_502 k_50 k_50 kc_move) rfl rfl rfl (by decide +kernel) ⟨Nat.le_of_ble_eq_true rfl, Nat.le_of_ble_eq_true rfl⟩) hXp hK hP hD hA [0, 1, 2, 3, 4, 5, 6, 7, 8, 9, 10, 11] [12, 13, 14, 15, 16, 17, 18, 19, 20, 21, 22] rfl rfl (by decide) rfl (by decide) (by decide) rfl hl.1 rfl (Nat.le_of_ble_eq_true rfl) d_law_613 ⟨hc1, hs1⟩ hS (fun H locs hP hD hS => ?_)
  have hP : va_P D cl5 (wL g k L u1 f1 tl1 tp1 qo fo1 r) H := hP.sub [11, 12, 13, 14, 15, 16, 17, 18, 19, 20, 21, 22, 0, 1, 2, 3, 4, 5, 6, 7, 8, 9, 10] rfl
  have hD : va_D A (wL g k L u1 f1 tl1 tp1 qo fo1 r) := hD.sub [11, 12, 13, 14, 15, 16, 17, 18, 19, 20, 21, 22, 0, 1, 2, 3, 4, 5, 6, 7, 8, 9, 10] (by decide) rfl
  refine lv_istore (lv' := [(5, .int (k9)), (0, .ref b), (1, .ref (g 9)), (2, .ref (g 20)), (3, .ref qo), (4, .int (nI i))]) hx hb d_law_616 hl (by decide) rfl (fun ls hl => ?_)
  refine lv_aload_n hx hb d_law_618 rfl (lv_at hl 3 rfl) ?_
  refine lv_aload_n hx hb d_law_619 rfl (lv_at hl 1 rfl) ?_
  refine lv_iload hx hb d_law_620 (lv_at hl 5 rfl) ?_
  refine lv_iconst (v := nI 1) hx hb d_law_622 (by decide +kernel) ?_
  refine gz_iadd hx hb d_law_623 ?_
  refine gz_sld hx hb hXs hbl hbA hS (i := i + 1) (by omega) (by omega) d_law_624 ?_
  refine lv_aload_n hx hb d_law_625 rfl (lv_at hl 1 rfl) ?_
  refine lv_iload hx hb d_law_626 (lv_at hl 5 rfl) ?_
  refine lv_iconst (v := nI 2) hx hb d_law_628 (by decide +kernel) ?_
  refine gz_iadd hx hb d_law_629 ?_
  refine gz_sld hx hb hXs hbl hbA hS (i := i + 2) (by omega) (by omega) d_law_630 ?_
  refine lv_aload_n hx hb d_law_631 rfl (lv_at hl 1 rfl) ?_
  refine lv_iload hx hb d_law_632 (lv_at hl 5 rfl) ?_
  refine lv_iconst (v := nI 3) hx hb d_law_634 (by decide +kernel) ?_
  refine gz_iadd hx hb d_law_635 ?_
  refine gz_sld hx hb hXs hbl hbA hS (i := i + 3) (by omega) (by omega) d_law_636 ?_
  refine lv_aload_n hx hb d_law_637 rfl (lv_at hl 1 rfl) ?_
  refine lv_iload hx hb d_law_638 (lv_at hl 5 rfl) ?_
  refine lv_iconst (v := nI 4) hx hb d_law_640 (by decide +kernel) ?_
  refine gz_iadd hx hb d_law_641 ?_
  refine gz_sld hx hb hXs hbl hbA hS (i := i + 4) (by omega) (by omega) d_law_642 ?_
  refine gz_muI (As := [.int (xs (i + 1)), .int (xs (i + 2)), .int (xs (i + 3)), .int (xs (i + 4))]) (rest := []) (wc := (wM g k L r)) (w1 := (wM g k L r1)) (wr := (wX g k L u1 f1 tl1 tp1 qo fo1)) ⟨hx, hb, hml, hown, hTB⟩ hM2 (cwV 4 hTB (gd_V k_842 k_843 k_844 k_56 k_845) rfl rfl rfl (by decide +kernel) ⟨Nat.le_of_ble_eq_true rfl, Nat.le_of_ble_eq_true rfl⟩) hK hP hD hA [12, 13, 14, 15, 16, 17, 18, 19, 20, 21, 22] [0, 1, 2, 3, 4, 5, 6, 7, 8, 9, 10, 11] rfl rfl (by decide) rfl (by decide) (by decide) 12 rfl rfl rfl hl.1 rfl (Nat.le_of_ble_eq_true rfl) d_law_643 ⟨hc1, hs1⟩ hS (fun H locs hP hD hS => ?_)
  have hP : va_P D cl5 (wL g k L u1 f1 tl1 tp1 qo fo1 r1) H := hP.sub [0, 1, 2, 3, 4, 5, 6, 7, 8, 9, 10, 11, 12, 13, 14, 15, 16, 17, 18, 19, 20, 21, 22] rfl
  have hD : va_D A (wL g k L u1 f1 tl1 tp1 qo fo1 r1) := hD.sub [0, 1, 2, 3, 4, 5, 6, 7, 8, 9, 10, 11, 12, 13, 14, 15, 16, 17, 18, 19, 20, 21, 22] (by decide) rfl
  refine lv_istore (lv' := [(6, .int (b9)), (5, .int (k9)), (0, .ref b), (1, .ref (g 9)), (2, .ref (g 20)), (3, .ref qo), (4, .int (nI i))]) hx hb d_law_646 hl (by decide) rfl (fun ls hl => ?_)
  refine lv_aload_n hx hb d_law_648 rfl (lv_at hl 4 rfl) ?_
  refine gz_roV (As := []) (rest := []) (wc := (wM g k L r1)) ⟨hx, hb, hml, hown, hTB⟩ (c_Mod_thrown l D g k L hL0 hL r1 hrB) (cwV 0 hTB (gd_V k_687 k_688 k_689 k_56 k_690) rfl rfl rfl (by decide +kernel) ⟨Nat.le_of_ble_eq_true rfl, Nat.le_of_ble_eq_true rfl⟩) hK hP [12, 13, 14, 15, 16, 17, 18, 19, 20, 21, 22] rfl 12 rfl rfl rfl hl.1 rfl (Nat.le_of_ble_eq_true rfl) d_law_649 ⟨hc1, hs1⟩ hS (fun H locs hP hS => ?_)
  refine lv_iload hx hb d_law_652 (lv_at hl 1 rfl) ?_
  refine lv_icmp_eq (tgt := 659) hx hb d_law_654 (by decide) (fun h654 => ?_) (fun h654 => ?_)
  · refine lv_iload hx hb d_law_659 (lv_at hl 1 rfl) ?_
    refine lv_if_ne (tgt := 676) hx hb d_law_661 (by decide) (fun h661 => ?_) (fun h661 => ?_)
    · refine lv_goto (tgt := 1049) hx hb d_law_676 (by decide) ?_
      exact kk _ _ _ hP hD hS (lv_sub hl [2, 3, 4, 5, 6] rfl)
    · refine lv_aload_n hx hb d_law_664 rfl (lv_at hl 5 rfl) ?_
      refine lv_iconst (v := nI 0) hx hb d_law_665 (by decide +kernel) ?_
      refine gz_lald hx hb hK hP 11 0 rfl rfl (i := 0) (by omega) (by omega) d_law_666 ?_
      refine lv_iload hx hb d_law_667 (lv_at hl 0 rfl) ?_
      refine lv_i2l hx hb d_law_669 rfl ?_
      refine W.lcmp hx hb d_law_670 ?_
      refine lv_if_eq (tgt := 676) hx hb d_law_671 (by decide) (fun h671 => ?_) (fun h671 => ?_)
      · refine lv_goto (tgt := 1049) hx hb d_law_676 (by decide) ?_
        exact kk _ _ _ hP hD hS (lv_sub hl [2, 3, 4, 5, 6] rfl)
      · exact absurd ((lg_cmp_eq _ _).mpr (hbv h661)) h671
  · exact absurd hk h654
set_option maxHeartbeats 4000000 in
set_option maxRecDepth 100000 in
theorem lw_remove {p : Program} {l : Launch} {e : Env} {s : State} {m : MethodId} {below : List Frame} {meth : Method} {c : Code} {b Ls : Nat} {xs : Nat → Int32} {Q : State → Prop} {D : va_G} {g : Nat → Nat} {k : Nat → ClassId} {L qo i cells slots : Nat} {u u1 : DSt} {f0 f1 : Nat → Int32} {tl tl1 : Nat} {tp tp1 : Nat → Int32} {fo fo1 : Nat → Int64} {r r1 : RSt} {k9 : Int32} {b9 : Int32}
    (C0 : lw_At p s m meth c b Ls xs) (hLs : Ls ≤ 2561) (hXp : xP (fun q => s.heap.size ≤ q) s s.heap) (hK : va_K D cl5 (tyC k) s) (hL0 : 96 ≤ L) (hL : L ≤ 768) (hi : i + 5 ≤ Ls) (hc1 : cells + 1 ≤ 601024) (hs1 : slots + 6 ≤ 7293000) (hrB : rB r1) 
    (hM1 : MuH l y_Law_remove w_Law_remove ({ frames := 9, cells := 1, slots := 6, locals := 224 }) [.ref (g 9), .int (xs (i + 1)), .int (xs (i + 2)), .ref qo] D cl5 (tyC k) (wX g k L u f0 tl tp qo fo) (wX g k L u1 f1 tl1 tp1 qo fo1) k9) (hM2 : MuI l y_Mod_remove w_Mod_remove ({ frames := 8, cells := 0, slots := 0, locals := 196 }) [.ref (g 20), .int (xs (i + 1)), .int (xs (i + 2))] D cl5 (tyC k) (wM g k L r) (wM g k L r1) b9) (hk : rTh r1 = k9) (hbv : k9 = 0 → fo1 0 = b9.toInt64)
    (kk : ∀ (H : Heap) (locs : List Loc) (ls : Array Slot), va_P D cl5 (wL g k L u1 f1 tl1 tp1 qo fo1 r1) H → va_D (fun q => s.heap.size ≤ q) (wL g k L u1 f1 tl1 tp1 qo fo1 r1) → va_S (fun q => s.heap.size ≤ q) s.heap H locs → lv_has ls 8 [(0, .ref b), (1, .ref (g 9)), (2, .ref (g 20)), (3, .ref qo), (4, .int (nI i))] → W p l e room_1 s m #[Value.ref b] below meth c H locs (cells + 1) (slots + 6) Q (F0 m 1049 ls []))
    (H : Heap) (locs : List Loc) (ls : Array Slot) (hP : va_P D cl5 (wL g k L u f0 tl tp qo fo r) H) (hD : va_D (fun q => s.heap.size ≤ q) (wL g k L u f0 tl tp qo fo r)) (hS : va_S (fun q => s.heap.size ≤ q) s.heap H locs) (hl : lv_has ls 8 [(0, .ref b), (1, .ref (g 9)), (2, .ref (g 20)), (3, .ref qo), (4, .int (nI i))]) : W p l e room_1 s m #[Value.ref b] below meth c H locs cells slots Q (F0 m 679 ls []) := by
  obtain ⟨hx, hb, hr, hml, hown, hts, hXs, hbl, hlocks, hgv⟩ := C0
  have hTB : ∀ w ∈ lw_tb, w.before #[Value.ref b] s = true := fun w h => hts w (List.mem_filter.mp h).1
  have hA : ∀ q : Nat, s.heap.size ≤ q → (fun q : Nat => s.heap.size ≤ q) q := fun _ h => h
  have hbA : ¬ (fun q : Nat => s.heap.size ≤ q) b := Nat.not_le.mpr hbl
  generalize hAe : (fun q : Nat => s.heap.size ≤ q) = A at *
  refine lv_aload_n hx hb d_law_679 rfl (lv_at hl 1 rfl) ?_
  refine lv_aload_n hx hb d_law_680 rfl (lv_at hl 0 rfl) ?_
  refine lv_iload hx hb d_law_681 (lv_at hl 4 rfl) ?_
  refine lv_iconst (v := nI 1) hx hb d_law_683 (by decide +kernel) ?_
  refine gz_iadd hx hb d_law_684 ?_
  refine gz_sld hx hb hXs hbl hbA hS (i := i + 1) (by omega) (by omega) d_law_685 ?_
  refine lv_aload_n hx hb d_law_686 rfl (lv_at hl 0 rfl) ?_
  refine lv_iload hx hb d_law_687 (lv_at hl 4 rfl) ?_
  refine lv_iconst (v := nI 2) hx hb d_law_689 (by decide +kernel) ?_
  refine gz_iadd hx hb d_law_690 ?_
  refine gz_sld hx hb hXs hbl hbA hS (i := i + 2) (by omega) (by omega) d_law_691 ?_
  refine lv_aload_n hx hb d_law_692 rfl (lv_at hl 3 rfl) ?_
  refine gz_hI (As := [.ref (g 9), .int (xs (i + 1)), .int (xs (i + 2)), .ref qo]) (rest := []) (wc := (wX g k L u f0 tl tp qo fo)) (w1 := (wX g k L u1 f1 tl1 tp1 qo fo1)) (wr := (wM g k L r)) ⟨hx, hb, hml, hown, hTB⟩ hM1 (vx_cwSW 4 hTB (gd_SW k_540 k_541 k_50 k_50 kc_remove) rfl rfl rfl (by decide +kernel) ⟨Nat.le_of_ble_eq_true rfl, Nat.le_of_ble_eq_true rfl⟩) hXp hK hP hD hA [0, 1, 2, 3, 4, 5, 6, 7, 8, 9, 10, 11] [12, 13, 14, 15, 16, 17, 18, 19, 20, 21, 22] rfl rfl (by decide) rfl (by decide) (by decide) rfl hl.1 rfl (Nat.le_of_ble_eq_true rfl) d_law_693 ⟨hc1, hs1⟩ hS (fun H locs hP hD hS => ?_)
  have hP : va_P D cl5 (wL g k L u1 f1 tl1 tp1 qo fo1 r) H := hP.sub [11, 12, 13, 14, 15, 16, 17, 18, 19, 20, 21, 22, 0, 1, 2, 3, 4, 5, 6, 7, 8, 9, 10] rfl
  have hD : va_D A (wL g k L u1 f1 tl1 tp1 qo fo1 r) := hD.sub [11, 12, 13, 14, 15, 16, 17, 18, 19, 20, 21, 22, 0, 1, 2, 3, 4, 5, 6, 7, 8, 9, 10] (by decide) rfl
  refine lv_istore (lv' := [(5, .int (k9)), (0, .ref b), (1, .ref (g 9)), (2, .ref (g 20)), (3, .ref qo), (4, .int (nI i))]) hx hb d_law_696 hl (by decide) rfl (fun ls hl => ?_)
  refine lv_aload_n hx hb d_law_698 rfl (lv_at hl 3 rfl) ?_
  refine lv_aload_n hx hb d_law_699 rfl (lv_at hl 1 rfl) ?_
  refine lv_iload hx hb d_law_700 (lv_at hl 5 rfl) ?_
  refine lv_iconst (v := nI 1) hx hb d_law_702 (by decide +kernel) ?_
  refine gz_iadd hx hb d_law_703 ?_
  refine gz_sld hx hb hXs hbl hbA hS (i := i + 1) (by omega) (by omega) d_law_704 ?_
  refine lv_aload_n hx hb d_law_705 rfl (lv_at hl 1 rfl) ?_
  refine lv_iload hx hb d_law_706 (lv_at hl 5 rfl) ?_
  refine lv_iconst (v := nI 2) hx hb d_law_708 (by decide +kernel) ?_
  refine gz_iadd hx hb d_law_709 ?_
  refine gz_sld hx hb hXs hbl hbA hS (i := i + 2) (by omega) (by omega) d_law_710 ?_
  refine gz_muI (As := [.int (xs (i + 1)), .int (xs (i + 2))]) (rest := []) (wc := (wM g k L r)) (w1 := (wM g k L r1)) (wr := (wX g k L u1 f1 tl1 tp1 qo fo1)) ⟨hx, hb, hml, hown, hTB⟩ hM2 (cwV 2 hTB (gd_V k_846 k_847 k_848 k_56 k_849) rfl rfl rfl (by decide +kernel) ⟨Nat.le_of_ble_eq_true rfl, Nat.le_of_ble_eq_true rfl⟩) hK hP hD hA [12, 13, 14, 15, 16, 17, 18, 19, 20, 21, 22] [0, 1, 2, 3, 4, 5, 6, 7, 8, 9, 10, 11] rfl rfl (by decide) rfl (by decide) (by decide) 12 rfl rfl rfl hl.1 rfl (Nat.le_of_ble_eq_true rfl) d_law_711 ⟨hc1, hs1⟩ hS (fun H locs hP hD hS => ?_)
  have hP : va_P D cl5 (wL g k L u1 f1 tl1 tp1 qo fo1 r1) H := hP.sub [0, 1, 2, 3, 4, 5, 6, 7, 8, 9, 10, 11, 12, 13, 14, 15, 16, 17, 18, 19, 20, 21, 22] rfl
  have hD : va_D A (wL g k L u1 f1 tl1 tp1 qo fo1 r1) := hD.sub [0, 1, 2, 3, 4, 5, 6, 7, 8, 9, 10, 11, 12, 13, 14, 15, 16, 17, 18, 19, 20, 21, 22] (by decide) rfl
  refine lv_istore (lv' := [(6, .int (b9)), (5, .int (k9)), (0, .ref b), (1, .ref (g 9)), (2, .ref (g 20)), (3, .ref qo), (4, .int (nI i))]) hx hb d_law_714 hl (by decide) rfl (fun ls hl => ?_)
  refine lv_aload_n hx hb d_law_716 rfl (lv_at hl 4 rfl) ?_
  refine gz_roV (As := []) (rest := []) (wc := (wM g k L r1)) ⟨hx, hb, hml, hown, hTB⟩ (c_Mod_thrown l D g k L hL0 hL r1 hrB) (cwV 0 hTB (gd_V k_687 k_688 k_689 k_56 k_690) rfl rfl rfl (by decide +kernel) ⟨Nat.le_of_ble_eq_true rfl, Nat.le_of_ble_eq_true rfl⟩) hK hP [12, 13, 14, 15, 16, 17, 18, 19, 20, 21, 22] rfl 12 rfl rfl rfl hl.1 rfl (Nat.le_of_ble_eq_true rfl) d_law_717 ⟨hc1, hs1⟩ hS (fun H locs hP hS => ?_)
  refine lv_iload hx hb d_law_720 (lv_at hl 1 rfl) ?_
  refine lv_icmp_eq (tgt := 727) hx hb d_law_722 (by decide) (fun h722 => ?_) (fun h722 => ?_)
  · refine lv_iload hx hb d_law_727 (lv_at hl 1 rfl) ?_
    refine lv_if_ne (tgt := 744) hx hb d_law_729 (by decide) (fun h729 => ?_) (fun h729 => ?_)
    · refine lv_goto (tgt := 1049) hx hb d_law_744 (by decide) ?_
      exact kk _ _ _ hP hD hS (lv_sub hl [2, 3, 4, 5, 6] rfl)
    · refine lv_aload_n hx hb d_law_732 rfl (lv_at hl 5 rfl) ?_
      refine lv_iconst (v := nI 0) hx hb d_law_733 (by decide +kernel) ?_
      refine gz_lald hx hb hK hP 11 0 rfl rfl (i := 0) (by omega) (by omega) d_law_734 ?_
      refine lv_iload hx hb d_law_735 (lv_at hl 0 rfl) ?_
      refine lv_i2l hx hb d_law_737 rfl ?_
      refine W.lcmp hx hb d_law_738 ?_
      refine lv_if_eq (tgt := 744) hx hb d_law_739 (by decide) (fun h739 => ?_) (fun h739 => ?_)
      · refine lv_goto (tgt := 1049) hx hb d_law_744 (by decide) ?_
        exact kk _ _ _ hP hD hS (lv_sub hl [2, 3, 4, 5, 6] rfl)
      · exact absurd ((lg_cmp_eq _ _).mpr (hbv h729)) h739
  · exact absurd hk h722
set_option maxHeartbeats 4000000 in
set_option maxRecDepth 100000 in
theorem lw_commit {p : Program} {l : Launch} {e : Env} {s : State} {m : MethodId} {below : List Frame} {meth : Method} {c : Code} {b Ls : Nat} {xs : Nat → Int32} {Q : State → Prop} {D : va_G} {g : Nat → Nat} {k : Nat → ClassId} {L qo i cells slots : Nat} {u u1 : DSt} {f0 f1 : Nat → Int32} {tl tl1 : Nat} {tp tp1 : Nat → Int32} {fo : Nat → Int64} {r r1 : RSt} {k9 : Int32} {b9 : Int32}
    (C0 : lw_At p s m meth c b Ls xs) (hLs : Ls ≤ 2561) (hXp : xP (fun q => s.heap.size ≤ q) s s.heap) (hK : va_K D cl5 (tyC k) s) (hL0 : 96 ≤ L) (hL : L ≤ 768) (hi : i + 5 ≤ Ls) (hc1 : cells + 1 ≤ 601024) (hs1 : slots + 6 ≤ 7293000) (hrB : rB r1) 
    (hM1 : MuI l y_Tree_commit w_Tree_commit ({ frames := 4, cells := 0, slots := 0, locals := 125 }) [.ref (g 9)] D cl5 (tyC k) (wT g k L u f0 tl tp) (wT g k L u1 f1 tl1 tp1) k9) (hM2 : MuI l y_Mod_commit w_Mod_commit ({ frames := 5, cells := 0, slots := 0, locals := 115 }) [.ref (g 20)] D cl5 (tyC k) (wM g k L r) (wM g k L r1) b9) (hk : k9 = b9)
    (kk : ∀ (H : Heap) (locs : List Loc) (ls : Array Slot), va_P D cl5 (wL g k L u1 f1 tl1 tp1 qo fo r1) H → va_D (fun q => s.heap.size ≤ q) (wL g k L u1 f1 tl1 tp1 qo fo r1) → va_S (fun q => s.heap.size ≤ q) s.heap H locs → lv_has ls 8 [(0, .ref b), (1, .ref (g 9)), (2, .ref (g 20)), (3, .ref qo), (4, .int (nI i))] → W p l e room_1 s m #[Value.ref b] below meth c H locs (cells) (slots) Q (F0 m 1049 ls []))
    (H : Heap) (locs : List Loc) (ls : Array Slot) (hP : va_P D cl5 (wL g k L u f0 tl tp qo fo r) H) (hD : va_D (fun q => s.heap.size ≤ q) (wL g k L u f0 tl tp qo fo r)) (hS : va_S (fun q => s.heap.size ≤ q) s.heap H locs) (hl : lv_has ls 8 [(0, .ref b), (1, .ref (g 9)), (2, .ref (g 20)), (3, .ref qo), (4, .int (nI i))]) : W p l e room_1 s m #[Value.ref b] below meth c H locs cells slots Q (F0 m 747 ls []) := by
  obtain ⟨hx, hb, hr, hml, hown, hts, hXs, hbl, hlocks, hgv⟩ := C0
  have hTB : ∀ w ∈ lw_tb, w.before #[Value.ref b] s = true := fun w h => hts w (List.mem_filter.mp h).1
  have hA : ∀ q : Nat, s.heap.size ≤ q → (fun q : Nat => s.heap.size ≤ q) q := fun _ h => h
  have hbA : ¬ (fun q : Nat => s.heap.size ≤ q) b := Nat.not_le.mpr hbl
  generalize hAe : (fun q : Nat => s.heap.size ≤ q) = A at *
  have hc0 : cells ≤ 601024 := by omega
  have hs0 : slots ≤ 7293000 := by omega
  refine lv_aload_n hx hb d_law_747 rfl (lv_at hl 1 rfl) ?_
  refine gz_muI (As := []) (rest := []) (wc := (wT g k L u f0 tl tp)) (w1 := (wT g k L u1 f1 tl1 tp1)) (wr := ([(qo, .inl (k 0, 1, .inr (.inl fo)))] ++ wM g k L r)) ⟨hx, hb, hml, hown, hTB⟩ hM1 (cwV 0 hTB (gd_V k_211 k_212 k_213 k_51 k_214) rfl rfl rfl (by decide +kernel) ⟨Nat.le_of_ble_eq_true rfl, Nat.le_of_ble_eq_true rfl⟩) hK hP hD hA [0, 1, 2, 3, 4, 5, 6, 7, 8, 9, 10] [11, 12, 13, 14, 15, 16, 17, 18, 19, 20, 21, 22] rfl rfl (by decide) rfl (by decide) (by decide) 0 rfl rfl rfl hl.1 rfl (Nat.le_of_ble_eq_true rfl) d_law_748 ⟨hc0, hs0⟩ hS (fun H locs hP hD hS => ?_)
  have hP : va_P D cl5 (wL g k L u1 f1 tl1 tp1 qo fo r) H := hP.sub [12, 13, 14, 15, 16, 17, 18, 19, 20, 21, 22, 0, 1, 2, 3, 4, 5, 6, 7, 8, 9, 10, 11] rfl
  have hD : va_D A (wL g k L u1 f1 tl1 tp1 qo fo r) := hD.sub [12, 13, 14, 15, 16, 17, 18, 19, 20, 21, 22, 0, 1, 2, 3, 4, 5, 6, 7, 8, 9, 10, 11] (by decide) rfl
  refine lv_aload_n hx hb d_law_751 rfl (lv_at hl 2 rfl) ?_
  refine gz_muI (As := []) (rest := [.int (k9)]) (wc := (wM g k L r)) (w1 := (wM g k L r1)) (wr := (wX g k L u1 f1 tl1 tp1 qo fo)) ⟨hx, hb, hml, hown, hTB⟩ hM2 (cwV 0 hTB (gd_V k_850 k_851 k_852 k_56 k_853) rfl rfl rfl (by decide +kernel) ⟨Nat.le_of_ble_eq_true rfl, Nat.le_of_ble_eq_true rfl⟩) hK hP hD hA [12, 13, 14, 15, 16, 17, 18, 19, 20, 21, 22] [0, 1, 2, 3, 4, 5, 6, 7, 8, 9, 10, 11] rfl rfl (by decide) rfl (by decide) (by decide) 12 rfl rfl rfl hl.1 rfl (Nat.le_of_ble_eq_true rfl) d_law_752 ⟨hc0, hs0⟩ hS (fun H locs hP hD hS => ?_)
  have hP : va_P D cl5 (wL g k L u1 f1 tl1 tp1 qo fo r1) H := hP.sub [0, 1, 2, 3, 4, 5, 6, 7, 8, 9, 10, 11, 12, 13, 14, 15, 16, 17, 18, 19, 20, 21, 22] rfl
  have hD : va_D A (wL g k L u1 f1 tl1 tp1 qo fo r1) := hD.sub [0, 1, 2, 3, 4, 5, 6, 7, 8, 9, 10, 11, 12, 13, 14, 15, 16, 17, 18, 19, 20, 21, 22] (by decide) rfl
  refine lv_icmp_eq (tgt := 1049) hx hb d_law_755 (by decide) (fun h755 => ?_) (fun h755 => ?_)
  · exact kk _ _ _ hP hD hS (lv_sub hl [0, 1, 2, 3, 4] rfl)
  · exact absurd hk h755
set_option maxHeartbeats 4000000 in
set_option maxRecDepth 100000 in
theorem lw_drop {p : Program} {l : Launch} {e : Env} {s : State} {m : MethodId} {below : List Frame} {meth : Method} {c : Code} {b Ls : Nat} {xs : Nat → Int32} {Q : State → Prop} {D : va_G} {g : Nat → Nat} {k : Nat → ClassId} {L qo i cells slots : Nat} {u u1 : DSt} {f0 f1 : Nat → Int32} {tl tl1 : Nat} {tp tp1 : Nat → Int32} {fo : Nat → Int64} {r r1 : RSt} {k9 : Int32} {b9 : Int32}
    (C0 : lw_At p s m meth c b Ls xs) (hLs : Ls ≤ 2561) (hXp : xP (fun q => s.heap.size ≤ q) s s.heap) (hK : va_K D cl5 (tyC k) s) (hL0 : 96 ≤ L) (hL : L ≤ 768) (hi : i + 5 ≤ Ls) (hc1 : cells + 1 ≤ 601024) (hs1 : slots + 6 ≤ 7293000) (hrB : rB r1) 
    (hM1 : MuI l y_Tree_drop w_Tree_drop ({ frames := 4, cells := 0, slots := 0, locals := 125 }) [.ref (g 9)] D cl5 (tyC k) (wT g k L u f0 tl tp) (wT g k L u1 f1 tl1 tp1) k9) (hM2 : MuI l y_Mod_drop w_Mod_drop ({ frames := 4, cells := 0, slots := 0, locals := 92 }) [.ref (g 20)] D cl5 (tyC k) (wM g k L r) (wM g k L r1) b9) (hk : k9 = b9)
    (kk : ∀ (H : Heap) (locs : List Loc) (ls : Array Slot), va_P D cl5 (wL g k L u1 f1 tl1 tp1 qo fo r1) H → va_D (fun q => s.heap.size ≤ q) (wL g k L u1 f1 tl1 tp1 qo fo r1) → va_S (fun q => s.heap.size ≤ q) s.heap H locs → lv_has ls 8 [(0, .ref b), (1, .ref (g 9)), (2, .ref (g 20)), (3, .ref qo), (4, .int (nI i))] → W p l e room_1 s m #[Value.ref b] below meth c H locs (cells) (slots) Q (F0 m 1049 ls []))
    (H : Heap) (locs : List Loc) (ls : Array Slot) (hP : va_P D cl5 (wL g k L u f0 tl tp qo fo r) H) (hD : va_D (fun q => s.heap.size ≤ q) (wL g k L u f0 tl tp qo fo r)) (hS : va_S (fun q => s.heap.size ≤ q) s.heap H locs) (hl : lv_has ls 8 [(0, .ref b), (1, .ref (g 9)), (2, .ref (g 20)), (3, .ref qo), (4, .int (nI i))]) : W p l e room_1 s m #[Value.ref b] below meth c H locs cells slots Q (F0 m 760 ls []) := by
  obtain ⟨hx, hb, hr, hml, hown, hts, hXs, hbl, hlocks, hgv⟩ := C0
  have hTB : ∀ w ∈ lw_tb, w.before #[Value.ref b] s = true := fun w h => hts w (List.mem_filter.mp h).1
  have hA : ∀ q : Nat, s.heap.size ≤ q → (fun q : Nat => s.heap.size ≤ q) q := fun _ h => h
  have hbA : ¬ (fun q : Nat => s.heap.size ≤ q) b := Nat.not_le.mpr hbl
  generalize hAe : (fun q : Nat => s.heap.size ≤ q) = A at *
  have hc0 : cells ≤ 601024 := by omega
  have hs0 : slots ≤ 7293000 := by omega
  refine lv_aload_n hx hb d_law_760 rfl (lv_at hl 1 rfl) ?_
  refine gz_muI (As := []) (rest := []) (wc := (wT g k L u f0 tl tp)) (w1 := (wT g k L u1 f1 tl1 tp1)) (wr := ([(qo, .inl (k 0, 1, .inr (.inl fo)))] ++ wM g k L r)) ⟨hx, hb, hml, hown, hTB⟩ hM1 (cwV 0 hTB (gd_V k_216 k_217 k_218 k_51 k_219) rfl rfl rfl (by decide +kernel) ⟨Nat.le_of_ble_eq_true rfl, Nat.le_of_ble_eq_true rfl⟩) hK hP hD hA [0, 1, 2, 3, 4, 5, 6, 7, 8, 9, 10] [11, 12, 13, 14, 15, 16, 17, 18, 19, 20, 21, 22] rfl rfl (by decide) rfl (by decide) (by decide) 0 rfl rfl rfl hl.1 rfl (Nat.le_of_ble_eq_true rfl) d_law_761 ⟨hc0, hs0⟩ hS (fun H locs hP hD hS => ?_)
  have hP : va_P D cl5 (wL g k L u1 f1 tl1 tp1 qo fo r) H := hP.sub [12, 13, 14, 15, 16, 17, 18, 19, 20, 21, 22, 0, 1, 2, 3, 4, 5, 6, 7, 8, 9, 10, 11] rfl
  have hD : va_D A (wL g k L u1 f1 tl1 tp1 qo fo r) := hD.sub [12, 13, 14, 15, 16, 17, 18, 19, 20, 21, 22, 0, 1, 2, 3, 4, 5, 6, 7, 8, 9, 10, 11] (by decide) rfl
  refine lv_aload_n hx hb d_law_764 rfl (lv_at hl 2 rfl) ?_
  refine gz_muI (As := []) (rest := [.int (k9)]) (wc := (wM g k L r)) (w1 := (wM g k L r1)) (wr := (wX g k L u1 f1 tl1 tp1 qo fo)) ⟨hx, hb, hml, hown, hTB⟩ hM2 (cwV 0 hTB (gd_V k_854 k_855 k_856 k_56 k_857) rfl rfl rfl (by decide +kernel) ⟨Nat.le_of_ble_eq_true rfl, Nat.le_of_ble_eq_true rfl⟩) hK hP hD hA [12, 13, 14, 15, 16, 17, 18, 19, 20, 21, 22] [0, 1, 2, 3, 4, 5, 6, 7, 8, 9, 10, 11] rfl rfl (by decide) rfl (by decide) (by decide) 12 rfl rfl rfl hl.1 rfl (Nat.le_of_ble_eq_true rfl) d_law_765 ⟨hc0, hs0⟩ hS (fun H locs hP hD hS => ?_)
  have hP : va_P D cl5 (wL g k L u1 f1 tl1 tp1 qo fo r1) H := hP.sub [0, 1, 2, 3, 4, 5, 6, 7, 8, 9, 10, 11, 12, 13, 14, 15, 16, 17, 18, 19, 20, 21, 22] rfl
  have hD : va_D A (wL g k L u1 f1 tl1 tp1 qo fo r1) := hD.sub [0, 1, 2, 3, 4, 5, 6, 7, 8, 9, 10, 11, 12, 13, 14, 15, 16, 17, 18, 19, 20, 21, 22] (by decide) rfl
  refine lv_icmp_eq (tgt := 1049) hx hb d_law_768 (by decide) (fun h768 => ?_) (fun h768 => ?_)
  · exact kk _ _ _ hP hD hS (lv_sub hl [0, 1, 2, 3, 4] rfl)
  · exact absurd hk h768
set_option maxHeartbeats 4000000 in
set_option maxRecDepth 100000 in
theorem lw_node {p : Program} {l : Launch} {e : Env} {s : State} {m : MethodId} {below : List Frame} {meth : Method} {c : Code} {b Ls : Nat} {xs : Nat → Int32} {Q : State → Prop} {D : va_G} {g : Nat → Nat} {k : Nat → ClassId} {L qo i cells slots : Nat} {u u1 : DSt} {f0 f1 : Nat → Int32} {tl tl1 : Nat} {tp tp1 : Nat → Int32} {fo fo1 : Nat → Int64} {r r1 : RSt} {k9 : Int32} {b9 : Int32}
    (C0 : lw_At p s m meth c b Ls xs) (hLs : Ls ≤ 2561) (hXp : xP (fun q => s.heap.size ≤ q) s s.heap) (hK : va_K D cl5 (tyC k) s) (hL0 : 96 ≤ L) (hL : L ≤ 768) (hi : i + 5 ≤ Ls) (hc1 : cells + 1 ≤ 601024) (hs1 : slots + 6 ≤ 7293000) (hrB : rB r1) 
    (hM1 : MuH l y_Law_node w_Law_node ({ frames := 9, cells := 1, slots := 6, locals := 153 }) [.ref (g 9), .int (xs (i + 1)), .int (xs (i + 2)), .ref qo] D cl5 (tyC k) (wX g k L u f0 tl tp qo fo) (wX g k L u1 f1 tl1 tp1 qo fo1) k9) (hM2 : MuI l y_Mod_node w_Mod_node ({ frames := 2, cells := 0, slots := 0, locals := 42 }) [.ref (g 20), .int (xs (i + 1)), .int (xs (i + 2))] D cl5 (tyC k) (wM g k L r) (wM g k L r1) b9) (hk : rTh r1 = k9) (hbv : k9 = 0 → fo1 0 = b9.toInt64)
    (kk : ∀ (H : Heap) (locs : List Loc) (ls : Array Slot), va_P D cl5 (wL g k L u1 f1 tl1 tp1 qo fo1 r1) H → va_D (fun q => s.heap.size ≤ q) (wL g k L u1 f1 tl1 tp1 qo fo1 r1) → va_S (fun q => s.heap.size ≤ q) s.heap H locs → lv_has ls 8 [(0, .ref b), (1, .ref (g 9)), (2, .ref (g 20)), (3, .ref qo), (4, .int (nI i))] → W p l e room_1 s m #[Value.ref b] below meth c H locs (cells + 1) (slots + 6) Q (F0 m 1049 ls []))
    (H : Heap) (locs : List Loc) (ls : Array Slot) (hP : va_P D cl5 (wL g k L u f0 tl tp qo fo r) H) (hD : va_D (fun q => s.heap.size ≤ q) (wL g k L u f0 tl tp qo fo r)) (hS : va_S (fun q => s.heap.size ≤ q) s.heap H locs) (hl : lv_has ls 8 [(0, .ref b), (1, .ref (g 9)), (2, .ref (g 20)), (3, .ref qo), (4, .int (nI i))]) : W p l e room_1 s m #[Value.ref b] below meth c H locs cells slots Q (F0 m 773 ls []) := by
  obtain ⟨hx, hb, hr, hml, hown, hts, hXs, hbl, hlocks, hgv⟩ := C0
  have hTB : ∀ w ∈ lw_tb, w.before #[Value.ref b] s = true := fun w h => hts w (List.mem_filter.mp h).1
  have hA : ∀ q : Nat, s.heap.size ≤ q → (fun q : Nat => s.heap.size ≤ q) q := fun _ h => h
  have hbA : ¬ (fun q : Nat => s.heap.size ≤ q) b := Nat.not_le.mpr hbl
  generalize hAe : (fun q : Nat => s.heap.size ≤ q) = A at *
  refine lv_aload_n hx hb d_law_773 rfl (lv_at hl 1 rfl) ?_
  refine lv_aload_n hx hb d_law_774 rfl (lv_at hl 0 rfl) ?_
  refine lv_iload hx hb d_law_775 (lv_at hl 4 rfl) ?_
  refine lv_iconst (v := nI 1) hx hb d_law_777 (by decide +kernel) ?_
  refine gz_iadd hx hb d_law_778 ?_
  refine gz_sld hx hb hXs hbl hbA hS (i := i + 1) (by omega) (by omega) d_law_779 ?_
  refine lv_aload_n hx hb d_law_780 rfl (lv_at hl 0 rfl) ?_
  refine lv_iload hx hb d_law_781 (lv_at hl 4 rfl) ?_
  refine lv_iconst (v := nI 2) hx hb d_law_783 (by decide +kernel) ?_
  refine gz_iadd hx hb d_law_784 ?_
  refine gz_sld hx hb hXs hbl hbA hS (i := i + 2) (by omega) (by omega) d_law_785 ?_
  refine lv_aload_n hx hb d_law_786 rfl (lv_at hl 3 rfl) ?_
  refine gz_hI (As := [.ref (g 9), .int (xs (i + 1)), .int (xs (i + 2)), .ref qo]) (rest := []) (wc := (wX g k L u f0 tl tp qo fo)) (w1 := (wX g k L u1 f1 tl1 tp1 qo fo1)) (wr := (wM g k L r)) ⟨hx, hb, hml, hown, hTB⟩ hM1 (vx_cwSW 4 hTB (gd_SW k_547 k_548 k_50 k_50 kc_node) rfl rfl rfl (by decide +kernel) ⟨Nat.le_of_ble_eq_true rfl, Nat.le_of_ble_eq_true rfl⟩) hXp hK hP hD hA [0, 1, 2, 3, 4, 5, 6, 7, 8, 9, 10, 11] [12, 13, 14, 15, 16, 17, 18, 19, 20, 21, 22] rfl rfl (by decide) rfl (by decide) (by decide) rfl hl.1 rfl (Nat.le_of_ble_eq_true rfl) d_law_787 ⟨hc1, hs1⟩ hS (fun H locs hP hD hS => ?_)
  have hP : va_P D cl5 (wL g k L u1 f1 tl1 tp1 qo fo1 r) H := hP.sub [11, 12, 13, 14, 15, 16, 17, 18, 19, 20, 21, 22, 0, 1, 2, 3, 4, 5, 6, 7, 8, 9, 10] rfl
  have hD : va_D A (wL g k L u1 f1 tl1 tp1 qo fo1 r) := hD.sub [11, 12, 13, 14, 15, 16, 17, 18, 19, 20, 21, 22, 0, 1, 2, 3, 4, 5, 6, 7, 8, 9, 10] (by decide) rfl
  refine lv_istore (lv' := [(5, .int (k9)), (0, .ref b), (1, .ref (g 9)), (2, .ref (g 20)), (3, .ref qo), (4, .int (nI i))]) hx hb d_law_790 hl (by decide) rfl (fun ls hl => ?_)
  refine lv_aload_n hx hb d_law_792 rfl (lv_at hl 3 rfl) ?_
  refine lv_aload_n hx hb d_law_793 rfl (lv_at hl 1 rfl) ?_
  refine lv_iload hx hb d_law_794 (lv_at hl 5 rfl) ?_
  refine lv_iconst (v := nI 1) hx hb d_law_796 (by decide +kernel) ?_
  refine gz_iadd hx hb d_law_797 ?_
  refine gz_sld hx hb hXs hbl hbA hS (i := i + 1) (by omega) (by omega) d_law_798 ?_
  refine lv_aload_n hx hb d_law_799 rfl (lv_at hl 1 rfl) ?_
  refine lv_iload hx hb d_law_800 (lv_at hl 5 rfl) ?_
  refine lv_iconst (v := nI 2) hx hb d_law_802 (by decide +kernel) ?_
  refine gz_iadd hx hb d_law_803 ?_
  refine gz_sld hx hb hXs hbl hbA hS (i := i + 2) (by omega) (by omega) d_law_804 ?_
  refine gz_muI (As := [.int (xs (i + 1)), .int (xs (i + 2))]) (rest := []) (wc := (wM g k L r)) (w1 := (wM g k L r1)) (wr := (wX g k L u1 f1 tl1 tp1 qo fo1)) ⟨hx, hb, hml, hown, hTB⟩ hM2 (cwV 2 hTB (gd_V k_858 k_859 k_860 k_56 k_861) rfl rfl rfl (by decide +kernel) ⟨Nat.le_of_ble_eq_true rfl, Nat.le_of_ble_eq_true rfl⟩) hK hP hD hA [12, 13, 14, 15, 16, 17, 18, 19, 20, 21, 22] [0, 1, 2, 3, 4, 5, 6, 7, 8, 9, 10, 11] rfl rfl (by decide) rfl (by decide) (by decide) 12 rfl rfl rfl hl.1 rfl (Nat.le_of_ble_eq_true rfl) d_law_805 ⟨hc1, hs1⟩ hS (fun H locs hP hD hS => ?_)
  have hP : va_P D cl5 (wL g k L u1 f1 tl1 tp1 qo fo1 r1) H := hP.sub [0, 1, 2, 3, 4, 5, 6, 7, 8, 9, 10, 11, 12, 13, 14, 15, 16, 17, 18, 19, 20, 21, 22] rfl
  have hD : va_D A (wL g k L u1 f1 tl1 tp1 qo fo1 r1) := hD.sub [0, 1, 2, 3, 4, 5, 6, 7, 8, 9, 10, 11, 12, 13, 14, 15, 16, 17, 18, 19, 20, 21, 22] (by decide) rfl
  refine lv_istore (lv' := [(6, .int (b9)), (5, .int (k9)), (0, .ref b), (1, .ref (g 9)), (2, .ref (g 20)), (3, .ref qo), (4, .int (nI i))]) hx hb d_law_808 hl (by decide) rfl (fun ls hl => ?_)
  refine lv_aload_n hx hb d_law_810 rfl (lv_at hl 4 rfl) ?_
  refine gz_roV (As := []) (rest := []) (wc := (wM g k L r1)) ⟨hx, hb, hml, hown, hTB⟩ (c_Mod_thrown l D g k L hL0 hL r1 hrB) (cwV 0 hTB (gd_V k_687 k_688 k_689 k_56 k_690) rfl rfl rfl (by decide +kernel) ⟨Nat.le_of_ble_eq_true rfl, Nat.le_of_ble_eq_true rfl⟩) hK hP [12, 13, 14, 15, 16, 17, 18, 19, 20, 21, 22] rfl 12 rfl rfl rfl hl.1 rfl (Nat.le_of_ble_eq_true rfl) d_law_811 ⟨hc1, hs1⟩ hS (fun H locs hP hS => ?_)
  refine lv_iload hx hb d_law_814 (lv_at hl 1 rfl) ?_
  refine lv_icmp_eq (tgt := 821) hx hb d_law_816 (by decide) (fun h816 => ?_) (fun h816 => ?_)
  · refine lv_iload hx hb d_law_821 (lv_at hl 1 rfl) ?_
    refine lv_if_ne (tgt := 838) hx hb d_law_823 (by decide) (fun h823 => ?_) (fun h823 => ?_)
    · refine lv_goto (tgt := 1049) hx hb d_law_838 (by decide) ?_
      exact kk _ _ _ hP hD hS (lv_sub hl [2, 3, 4, 5, 6] rfl)
    · refine lv_aload_n hx hb d_law_826 rfl (lv_at hl 5 rfl) ?_
      refine lv_iconst (v := nI 0) hx hb d_law_827 (by decide +kernel) ?_
      refine gz_lald hx hb hK hP 11 0 rfl rfl (i := 0) (by omega) (by omega) d_law_828 ?_
      refine lv_iload hx hb d_law_829 (lv_at hl 0 rfl) ?_
      refine lv_i2l hx hb d_law_831 rfl ?_
      refine W.lcmp hx hb d_law_832 ?_
      refine lv_if_eq (tgt := 838) hx hb d_law_833 (by decide) (fun h833 => ?_) (fun h833 => ?_)
      · refine lv_goto (tgt := 1049) hx hb d_law_838 (by decide) ?_
        exact kk _ _ _ hP hD hS (lv_sub hl [2, 3, 4, 5, 6] rfl)
      · exact absurd ((lg_cmp_eq _ _).mpr (hbv h823)) h833
  · exact absurd hk h816
set_option maxHeartbeats 4000000 in
set_option maxRecDepth 100000 in
theorem lw_at_0 {p : Program} {l : Launch} {e : Env} {s : State} {m : MethodId} {below : List Frame} {meth : Method} {c : Code} {b Ls : Nat} {xs : Nat → Int32} {Q : State → Prop} {D : va_G} {g : Nat → Nat} {k : Nat → ClassId} {L qo i cells slots : Nat} {u u1 : DSt} {f0 f1 : Nat → Int32} {tl tl1 : Nat} {tp tp1 : Nat → Int32} {fo fo1 : Nat → Int64} {r r1 : RSt} {k9 : Int32} {b9 : Int32}
    (C0 : lw_At p s m meth c b Ls xs) (hLs : Ls ≤ 2561) (hXp : xP (fun q => s.heap.size ≤ q) s s.heap) (hK : va_K D cl5 (tyC k) s) (hL0 : 96 ≤ L) (hL : L ≤ 768) (hi : i + 5 ≤ Ls) (hc1 : cells + 1 ≤ 601024) (hs1 : slots + 6 ≤ 7293000) (hrB : rB r1) (hz :  xs (i + 3) = 0)
    (hM1 : MuH l y_Law_at w_Law_at ({ frames := 8, cells := 1, slots := 6, locals := 134 }) [.ref (g 9), .int (xs (i + 1)), .int (xs (i + 2)), .int (nI 0), .ref qo] D cl5 (tyC k) (wX g k L u f0 tl tp qo fo) (wX g k L u1 f1 tl1 tp1 qo fo1) k9) (hM2 : MuI l y_Mod_at w_Mod_at ({ frames := 2, cells := 0, slots := 0, locals := 47 }) [.ref (g 20), .int (xs (i + 1)), .int (xs (i + 2)), .int (nI 0)] D cl5 (tyC k) (wM g k L r) (wM g k L r1) b9) (hk : rTh r1 = k9) (hbv : k9 = 0 → fo1 0 = b9.toInt64)
    (kk : ∀ (H : Heap) (locs : List Loc) (ls : Array Slot), va_P D cl5 (wL g k L u1 f1 tl1 tp1 qo fo1 r1) H → va_D (fun q => s.heap.size ≤ q) (wL g k L u1 f1 tl1 tp1 qo fo1 r1) → va_S (fun q => s.heap.size ≤ q) s.heap H locs → lv_has ls 8 [(0, .ref b), (1, .ref (g 9)), (2, .ref (g 20)), (3, .ref qo), (4, .int (nI i))] → W p l e room_1 s m #[Value.ref b] below meth c H locs (cells + 1) (slots + 6) Q (F0 m 1049 ls []))
    (H : Heap) (locs : List Loc) (ls : Array Slot) (hP : va_P D cl5 (wL g k L u f0 tl tp qo fo r) H) (hD : va_D (fun q => s.heap.size ≤ q) (wL g k L u f0 tl tp qo fo r)) (hS : va_S (fun q => s.heap.size ≤ q) s.heap H locs) (hl : lv_has ls 8 [(0, .ref b), (1, .ref (g 9)), (2, .ref (g 20)), (3, .ref qo), (4, .int (nI i))]) : W p l e room_1 s m #[Value.ref b] below meth c H locs cells slots Q (F0 m 841 ls []) := by
  obtain ⟨hx, hb, hr, hml, hown, hts, hXs, hbl, hlocks, hgv⟩ := C0
  have hTB : ∀ w ∈ lw_tb, w.before #[Value.ref b] s = true := fun w h => hts w (List.mem_filter.mp h).1
  have hA : ∀ q : Nat, s.heap.size ≤ q → (fun q : Nat => s.heap.size ≤ q) q := fun _ h => h
  have hbA : ¬ (fun q : Nat => s.heap.size ≤ q) b := Nat.not_le.mpr hbl
  generalize hAe : (fun q : Nat => s.heap.size ≤ q) = A at *
  refine lv_aload_n hx hb d_law_841 rfl (lv_at hl 1 rfl) ?_
  refine lv_aload_n hx hb d_law_842 rfl (lv_at hl 0 rfl) ?_
  refine lv_iload hx hb d_law_843 (lv_at hl 4 rfl) ?_
  refine lv_iconst (v := nI 1) hx hb d_law_845 (by decide +kernel) ?_
  refine gz_iadd hx hb d_law_846 ?_
  refine gz_sld hx hb hXs hbl hbA hS (i := i + 1) (by omega) (by omega) d_law_847 ?_
  refine lv_aload_n hx hb d_law_848 rfl (lv_at hl 0 rfl) ?_
  refine lv_iload hx hb d_law_849 (lv_at hl 4 rfl) ?_
  refine lv_iconst (v := nI 2) hx hb d_law_851 (by decide +kernel) ?_
  refine gz_iadd hx hb d_law_852 ?_
  refine gz_sld hx hb hXs hbl hbA hS (i := i + 2) (by omega) (by omega) d_law_853 ?_
  refine lv_aload_n hx hb d_law_854 rfl (lv_at hl 0 rfl) ?_
  refine lv_iload hx hb d_law_855 (lv_at hl 4 rfl) ?_
  refine lv_iconst (v := nI 3) hx hb d_law_857 (by decide +kernel) ?_
  refine gz_iadd hx hb d_law_858 ?_
  refine gz_sld hx hb hXs hbl hbA hS (i := i + 3) (by omega) (by omega) d_law_859 ?_
  refine lv_if_eq (tgt := 867) hx hb d_law_860 (by decide) (fun h860 => ?_) (fun h860 => ?_)
  · refine lv_iconst (v := nI 0) hx hb d_law_867 (by decide +kernel) ?_
    refine lv_aload_n hx hb d_law_868 rfl (lv_at hl 3 rfl) ?_
    refine gz_hI (As := [.ref (g 9), .int (xs (i + 1)), .int (xs (i + 2)), .int (nI 0), .ref qo]) (rest := []) (wc := (wX g k L u f0 tl tp qo fo)) (w1 := (wX g k L u1 f1 tl1 tp1 qo fo1)) (wr := (wM g k L r)) ⟨hx, hb, hml, hown, hTB⟩ hM1 (vx_cwSW 5 hTB (gd_SW k_558 k_559 k_50 k_50 kc_at) rfl rfl rfl (by decide +kernel) ⟨Nat.le_of_ble_eq_true rfl, Nat.le_of_ble_eq_true rfl⟩) hXp hK hP hD hA [0, 1, 2, 3, 4, 5, 6, 7, 8, 9, 10, 11] [12, 13, 14, 15, 16, 17, 18, 19, 20, 21, 22] rfl rfl (by decide) rfl (by decide) (by decide) rfl hl.1 rfl (Nat.le_of_ble_eq_true rfl) d_law_869 ⟨hc1, hs1⟩ hS (fun H locs hP hD hS => ?_)
    have hP : va_P D cl5 (wL g k L u1 f1 tl1 tp1 qo fo1 r) H := hP.sub [11, 12, 13, 14, 15, 16, 17, 18, 19, 20, 21, 22, 0, 1, 2, 3, 4, 5, 6, 7, 8, 9, 10] rfl
    have hD : va_D A (wL g k L u1 f1 tl1 tp1 qo fo1 r) := hD.sub [11, 12, 13, 14, 15, 16, 17, 18, 19, 20, 21, 22, 0, 1, 2, 3, 4, 5, 6, 7, 8, 9, 10] (by decide) rfl
    refine lv_istore (lv' := [(5, .int (k9)), (0, .ref b), (1, .ref (g 9)), (2, .ref (g 20)), (3, .ref qo), (4, .int (nI i))]) hx hb d_law_872 hl (by decide) rfl (fun ls hl => ?_)
    refine lv_aload_n hx hb d_law_874 rfl (lv_at hl 3 rfl) ?_
    refine lv_aload_n hx hb d_law_875 rfl (lv_at hl 1 rfl) ?_
    refine lv_iload hx hb d_law_876 (lv_at hl 5 rfl) ?_
    refine lv_iconst (v := nI 1) hx hb d_law_878 (by decide +kernel) ?_
    refine gz_iadd hx hb d_law_879 ?_
    refine gz_sld hx hb hXs hbl hbA hS (i := i + 1) (by omega) (by omega) d_law_880 ?_
    refine lv_aload_n hx hb d_law_881 rfl (lv_at hl 1 rfl) ?_
    refine lv_iload hx hb d_law_882 (lv_at hl 5 rfl) ?_
    refine lv_iconst (v := nI 2) hx hb d_law_884 (by decide +kernel) ?_
    refine gz_iadd hx hb d_law_885 ?_
    refine gz_sld hx hb hXs hbl hbA hS (i := i + 2) (by omega) (by omega) d_law_886 ?_
    refine lv_aload_n hx hb d_law_887 rfl (lv_at hl 1 rfl) ?_
    refine lv_iload hx hb d_law_888 (lv_at hl 5 rfl) ?_
    refine lv_iconst (v := nI 3) hx hb d_law_890 (by decide +kernel) ?_
    refine gz_iadd hx hb d_law_891 ?_
    refine gz_sld hx hb hXs hbl hbA hS (i := i + 3) (by omega) (by omega) d_law_892 ?_
    refine lv_if_eq (tgt := 900) hx hb d_law_893 (by decide) (fun h893 => ?_) (fun h893 => ?_)
    · refine lv_iconst (v := nI 0) hx hb d_law_900 (by decide +kernel) ?_
      refine gz_muI (As := [.int (xs (i + 1)), .int (xs (i + 2)), .int (nI 0)]) (rest := []) (wc := (wM g k L r)) (w1 := (wM g k L r1)) (wr := (wX g k L u1 f1 tl1 tp1 qo fo1)) ⟨hx, hb, hml, hown, hTB⟩ hM2 (cwV 3 hTB (gd_V k_862 k_863 k_864 k_56 k_865) rfl rfl rfl (by decide +kernel) ⟨Nat.le_of_ble_eq_true rfl, Nat.le_of_ble_eq_true rfl⟩) hK hP hD hA [12, 13, 14, 15, 16, 17, 18, 19, 20, 21, 22] [0, 1, 2, 3, 4, 5, 6, 7, 8, 9, 10, 11] rfl rfl (by decide) rfl (by decide) (by decide) 12 rfl rfl rfl hl.1 rfl (Nat.le_of_ble_eq_true rfl) d_law_901 ⟨hc1, hs1⟩ hS (fun H locs hP hD hS => ?_)
      have hP : va_P D cl5 (wL g k L u1 f1 tl1 tp1 qo fo1 r1) H := hP.sub [0, 1, 2, 3, 4, 5, 6, 7, 8, 9, 10, 11, 12, 13, 14, 15, 16, 17, 18, 19, 20, 21, 22] rfl
      have hD : va_D A (wL g k L u1 f1 tl1 tp1 qo fo1 r1) := hD.sub [0, 1, 2, 3, 4, 5, 6, 7, 8, 9, 10, 11, 12, 13, 14, 15, 16, 17, 18, 19, 20, 21, 22] (by decide) rfl
      refine lv_istore (lv' := [(6, .int (b9)), (5, .int (k9)), (0, .ref b), (1, .ref (g 9)), (2, .ref (g 20)), (3, .ref qo), (4, .int (nI i))]) hx hb d_law_904 hl (by decide) rfl (fun ls hl => ?_)
      refine lv_aload_n hx hb d_law_906 rfl (lv_at hl 4 rfl) ?_
      refine gz_roV (As := []) (rest := []) (wc := (wM g k L r1)) ⟨hx, hb, hml, hown, hTB⟩ (c_Mod_thrown l D g k L hL0 hL r1 hrB) (cwV 0 hTB (gd_V k_687 k_688 k_689 k_56 k_690) rfl rfl rfl (by decide +kernel) ⟨Nat.le_of_ble_eq_true rfl, Nat.le_of_ble_eq_true rfl⟩) hK hP [12, 13, 14, 15, 16, 17, 18, 19, 20, 21, 22] rfl 12 rfl rfl rfl hl.1 rfl (Nat.le_of_ble_eq_true rfl) d_law_907 ⟨hc1, hs1⟩ hS (fun H locs hP hS => ?_)
      refine lv_iload hx hb d_law_910 (lv_at hl 1 rfl) ?_
      refine lv_icmp_eq (tgt := 917) hx hb d_law_912 (by decide) (fun h912 => ?_) (fun h912 => ?_)
      · refine lv_iload hx hb d_law_917 (lv_at hl 1 rfl) ?_
        refine lv_if_ne (tgt := 934) hx hb d_law_919 (by decide) (fun h919 => ?_) (fun h919 => ?_)
        · refine lv_goto (tgt := 1049) hx hb d_law_934 (by decide) ?_
          exact kk _ _ _ hP hD hS (lv_sub hl [2, 3, 4, 5, 6] rfl)
        · refine lv_aload_n hx hb d_law_922 rfl (lv_at hl 5 rfl) ?_
          refine lv_iconst (v := nI 0) hx hb d_law_923 (by decide +kernel) ?_
          refine gz_lald hx hb hK hP 11 0 rfl rfl (i := 0) (by omega) (by omega) d_law_924 ?_
          refine lv_iload hx hb d_law_925 (lv_at hl 0 rfl) ?_
          refine lv_i2l hx hb d_law_927 rfl ?_
          refine W.lcmp hx hb d_law_928 ?_
          refine lv_if_eq (tgt := 934) hx hb d_law_929 (by decide) (fun h929 => ?_) (fun h929 => ?_)
          · refine lv_goto (tgt := 1049) hx hb d_law_934 (by decide) ?_
            exact kk _ _ _ hP hD hS (lv_sub hl [2, 3, 4, 5, 6] rfl)
          · exact absurd ((lg_cmp_eq _ _).mpr (hbv h919)) h929
      · exact absurd hk h912
    · exact absurd hz h893
  · exact absurd hz h860
set_option maxHeartbeats 4000000 in
set_option maxRecDepth 100000 in
theorem lw_at_1 {p : Program} {l : Launch} {e : Env} {s : State} {m : MethodId} {below : List Frame} {meth : Method} {c : Code} {b Ls : Nat} {xs : Nat → Int32} {Q : State → Prop} {D : va_G} {g : Nat → Nat} {k : Nat → ClassId} {L qo i cells slots : Nat} {u u1 : DSt} {f0 f1 : Nat → Int32} {tl tl1 : Nat} {tp tp1 : Nat → Int32} {fo fo1 : Nat → Int64} {r r1 : RSt} {k9 : Int32} {b9 : Int32}
    (C0 : lw_At p s m meth c b Ls xs) (hLs : Ls ≤ 2561) (hXp : xP (fun q => s.heap.size ≤ q) s s.heap) (hK : va_K D cl5 (tyC k) s) (hL0 : 96 ≤ L) (hL : L ≤ 768) (hi : i + 5 ≤ Ls) (hc1 : cells + 1 ≤ 601024) (hs1 : slots + 6 ≤ 7293000) (hrB : rB r1) (hz : ¬ xs (i + 3) = 0)
    (hM1 : MuH l y_Law_at w_Law_at ({ frames := 8, cells := 1, slots := 6, locals := 134 }) [.ref (g 9), .int (xs (i + 1)), .int (xs (i + 2)), .int (nI 1), .ref qo] D cl5 (tyC k) (wX g k L u f0 tl tp qo fo) (wX g k L u1 f1 tl1 tp1 qo fo1) k9) (hM2 : MuI l y_Mod_at w_Mod_at ({ frames := 2, cells := 0, slots := 0, locals := 47 }) [.ref (g 20), .int (xs (i + 1)), .int (xs (i + 2)), .int (nI 1)] D cl5 (tyC k) (wM g k L r) (wM g k L r1) b9) (hk : rTh r1 = k9) (hbv : k9 = 0 → fo1 0 = b9.toInt64)
    (kk : ∀ (H : Heap) (locs : List Loc) (ls : Array Slot), va_P D cl5 (wL g k L u1 f1 tl1 tp1 qo fo1 r1) H → va_D (fun q => s.heap.size ≤ q) (wL g k L u1 f1 tl1 tp1 qo fo1 r1) → va_S (fun q => s.heap.size ≤ q) s.heap H locs → lv_has ls 8 [(0, .ref b), (1, .ref (g 9)), (2, .ref (g 20)), (3, .ref qo), (4, .int (nI i))] → W p l e room_1 s m #[Value.ref b] below meth c H locs (cells + 1) (slots + 6) Q (F0 m 1049 ls []))
    (H : Heap) (locs : List Loc) (ls : Array Slot) (hP : va_P D cl5 (wL g k L u f0 tl tp qo fo r) H) (hD : va_D (fun q => s.heap.size ≤ q) (wL g k L u f0 tl tp qo fo r)) (hS : va_S (fun q => s.heap.size ≤ q) s.heap H locs) (hl : lv_has ls 8 [(0, .ref b), (1, .ref (g 9)), (2, .ref (g 20)), (3, .ref qo), (4, .int (nI i))]) : W p l e room_1 s m #[Value.ref b] below meth c H locs cells slots Q (F0 m 841 ls []) := by
  obtain ⟨hx, hb, hr, hml, hown, hts, hXs, hbl, hlocks, hgv⟩ := C0
  have hTB : ∀ w ∈ lw_tb, w.before #[Value.ref b] s = true := fun w h => hts w (List.mem_filter.mp h).1
  have hA : ∀ q : Nat, s.heap.size ≤ q → (fun q : Nat => s.heap.size ≤ q) q := fun _ h => h
  have hbA : ¬ (fun q : Nat => s.heap.size ≤ q) b := Nat.not_le.mpr hbl
  generalize hAe : (fun q : Nat => s.heap.size ≤ q) = A at *
  refine lv_aload_n hx hb d_law_841 rfl (lv_at hl 1 rfl) ?_
  refine lv_aload_n hx hb d_law_842 rfl (lv_at hl 0 rfl) ?_
  refine lv_iload hx hb d_law_843 (lv_at hl 4 rfl) ?_
  refine lv_iconst (v := nI 1) hx hb d_law_845 (by decide +kernel) ?_
  refine gz_iadd hx hb d_law_846 ?_
  refine gz_sld hx hb hXs hbl hbA hS (i := i + 1) (by omega) (by omega) d_law_847 ?_
  refine lv_aload_n hx hb d_law_848 rfl (lv_at hl 0 rfl) ?_
  refine lv_iload hx hb d_law_849 (lv_at hl 4 rfl) ?_
  refine lv_iconst (v := nI 2) hx hb d_law_851 (by decide +kernel) ?_
  refine gz_iadd hx hb d_law_852 ?_
  refine gz_sld hx hb hXs hbl hbA hS (i := i + 2) (by omega) (by omega) d_law_853 ?_
  refine lv_aload_n hx hb d_law_854 rfl (lv_at hl 0 rfl) ?_
  refine lv_iload hx hb d_law_855 (lv_at hl 4 rfl) ?_
  refine lv_iconst (v := nI 3) hx hb d_law_857 (by decide +kernel) ?_
  refine gz_iadd hx hb d_law_858 ?_
  refine gz_sld hx hb hXs hbl hbA hS (i := i + 3) (by omega) (by omega) d_law_859 ?_
  refine lv_if_eq (tgt := 867) hx hb d_law_860 (by decide) (fun h860 => ?_) (fun h860 => ?_)
  · exact absurd h860 hz
  · refine lv_iconst (v := nI 1) hx hb d_law_863 (by decide +kernel) ?_
    refine lv_goto (tgt := 868) hx hb d_law_864 (by decide) ?_
    refine lv_aload_n hx hb d_law_868 rfl (lv_at hl 3 rfl) ?_
    refine gz_hI (As := [.ref (g 9), .int (xs (i + 1)), .int (xs (i + 2)), .int (nI 1), .ref qo]) (rest := []) (wc := (wX g k L u f0 tl tp qo fo)) (w1 := (wX g k L u1 f1 tl1 tp1 qo fo1)) (wr := (wM g k L r)) ⟨hx, hb, hml, hown, hTB⟩ hM1 (vx_cwSW 5 hTB (gd_SW k_558 k_559 k_50 k_50 kc_at) rfl rfl rfl (by decide +kernel) ⟨Nat.le_of_ble_eq_true rfl, Nat.le_of_ble_eq_true rfl⟩) hXp hK hP hD hA [0, 1, 2, 3, 4, 5, 6, 7, 8, 9, 10, 11] [12, 13, 14, 15, 16, 17, 18, 19, 20, 21, 22] rfl rfl (by decide) rfl (by decide) (by decide) rfl hl.1 rfl (Nat.le_of_ble_eq_true rfl) d_law_869 ⟨hc1, hs1⟩ hS (fun H locs hP hD hS => ?_)
    have hP : va_P D cl5 (wL g k L u1 f1 tl1 tp1 qo fo1 r) H := hP.sub [11, 12, 13, 14, 15, 16, 17, 18, 19, 20, 21, 22, 0, 1, 2, 3, 4, 5, 6, 7, 8, 9, 10] rfl
    have hD : va_D A (wL g k L u1 f1 tl1 tp1 qo fo1 r) := hD.sub [11, 12, 13, 14, 15, 16, 17, 18, 19, 20, 21, 22, 0, 1, 2, 3, 4, 5, 6, 7, 8, 9, 10] (by decide) rfl
    refine lv_istore (lv' := [(5, .int (k9)), (0, .ref b), (1, .ref (g 9)), (2, .ref (g 20)), (3, .ref qo), (4, .int (nI i))]) hx hb d_law_872 hl (by decide) rfl (fun ls hl => ?_)
    refine lv_aload_n hx hb d_law_874 rfl (lv_at hl 3 rfl) ?_
    refine lv_aload_n hx hb d_law_875 rfl (lv_at hl 1 rfl) ?_
    refine lv_iload hx hb d_law_876 (lv_at hl 5 rfl) ?_
    refine lv_iconst (v := nI 1) hx hb d_law_878 (by decide +kernel) ?_
    refine gz_iadd hx hb d_law_879 ?_
    refine gz_sld hx hb hXs hbl hbA hS (i := i + 1) (by omega) (by omega) d_law_880 ?_
    refine lv_aload_n hx hb d_law_881 rfl (lv_at hl 1 rfl) ?_
    refine lv_iload hx hb d_law_882 (lv_at hl 5 rfl) ?_
    refine lv_iconst (v := nI 2) hx hb d_law_884 (by decide +kernel) ?_
    refine gz_iadd hx hb d_law_885 ?_
    refine gz_sld hx hb hXs hbl hbA hS (i := i + 2) (by omega) (by omega) d_law_886 ?_
    refine lv_aload_n hx hb d_law_887 rfl (lv_at hl 1 rfl) ?_
    refine lv_iload hx hb d_law_888 (lv_at hl 5 rfl) ?_
    refine lv_iconst (v := nI 3) hx hb d_law_890 (by decide +kernel) ?_
    refine gz_iadd hx hb d_law_891 ?_
    refine gz_sld hx hb hXs hbl hbA hS (i := i + 3) (by omega) (by omega) d_law_892 ?_
    refine lv_if_eq (tgt := 900) hx hb d_law_893 (by decide) (fun h893 => ?_) (fun h893 => ?_)
    · exact absurd h893 hz
    · refine lv_iconst (v := nI 1) hx hb d_law_896 (by decide +kernel) ?_
      refine lv_goto (tgt := 901) hx hb d_law_897 (by decide) ?_
      refine gz_muI (As := [.int (xs (i + 1)), .int (xs (i + 2)), .int (nI 1)]) (rest := []) (wc := (wM g k L r)) (w1 := (wM g k L r1)) (wr := (wX g k L u1 f1 tl1 tp1 qo fo1)) ⟨hx, hb, hml, hown, hTB⟩ hM2 (cwV 3 hTB (gd_V k_862 k_863 k_864 k_56 k_865) rfl rfl rfl (by decide +kernel) ⟨Nat.le_of_ble_eq_true rfl, Nat.le_of_ble_eq_true rfl⟩) hK hP hD hA [12, 13, 14, 15, 16, 17, 18, 19, 20, 21, 22] [0, 1, 2, 3, 4, 5, 6, 7, 8, 9, 10, 11] rfl rfl (by decide) rfl (by decide) (by decide) 12 rfl rfl rfl hl.1 rfl (Nat.le_of_ble_eq_true rfl) d_law_901 ⟨hc1, hs1⟩ hS (fun H locs hP hD hS => ?_)
      have hP : va_P D cl5 (wL g k L u1 f1 tl1 tp1 qo fo1 r1) H := hP.sub [0, 1, 2, 3, 4, 5, 6, 7, 8, 9, 10, 11, 12, 13, 14, 15, 16, 17, 18, 19, 20, 21, 22] rfl
      have hD : va_D A (wL g k L u1 f1 tl1 tp1 qo fo1 r1) := hD.sub [0, 1, 2, 3, 4, 5, 6, 7, 8, 9, 10, 11, 12, 13, 14, 15, 16, 17, 18, 19, 20, 21, 22] (by decide) rfl
      refine lv_istore (lv' := [(6, .int (b9)), (5, .int (k9)), (0, .ref b), (1, .ref (g 9)), (2, .ref (g 20)), (3, .ref qo), (4, .int (nI i))]) hx hb d_law_904 hl (by decide) rfl (fun ls hl => ?_)
      refine lv_aload_n hx hb d_law_906 rfl (lv_at hl 4 rfl) ?_
      refine gz_roV (As := []) (rest := []) (wc := (wM g k L r1)) ⟨hx, hb, hml, hown, hTB⟩ (c_Mod_thrown l D g k L hL0 hL r1 hrB) (cwV 0 hTB (gd_V k_687 k_688 k_689 k_56 k_690) rfl rfl rfl (by decide +kernel) ⟨Nat.le_of_ble_eq_true rfl, Nat.le_of_ble_eq_true rfl⟩) hK hP [12, 13, 14, 15, 16, 17, 18, 19, 20, 21, 22] rfl 12 rfl rfl rfl hl.1 rfl (Nat.le_of_ble_eq_true rfl) d_law_907 ⟨hc1, hs1⟩ hS (fun H locs hP hS => ?_)
      refine lv_iload hx hb d_law_910 (lv_at hl 1 rfl) ?_
      refine lv_icmp_eq (tgt := 917) hx hb d_law_912 (by decide) (fun h912 => ?_) (fun h912 => ?_)
      · refine lv_iload hx hb d_law_917 (lv_at hl 1 rfl) ?_
        refine lv_if_ne (tgt := 934) hx hb d_law_919 (by decide) (fun h919 => ?_) (fun h919 => ?_)
        · refine lv_goto (tgt := 1049) hx hb d_law_934 (by decide) ?_
          exact kk _ _ _ hP hD hS (lv_sub hl [2, 3, 4, 5, 6] rfl)
        · refine lv_aload_n hx hb d_law_922 rfl (lv_at hl 5 rfl) ?_
          refine lv_iconst (v := nI 0) hx hb d_law_923 (by decide +kernel) ?_
          refine gz_lald hx hb hK hP 11 0 rfl rfl (i := 0) (by omega) (by omega) d_law_924 ?_
          refine lv_iload hx hb d_law_925 (lv_at hl 0 rfl) ?_
          refine lv_i2l hx hb d_law_927 rfl ?_
          refine W.lcmp hx hb d_law_928 ?_
          refine lv_if_eq (tgt := 934) hx hb d_law_929 (by decide) (fun h929 => ?_) (fun h929 => ?_)
          · refine lv_goto (tgt := 1049) hx hb d_law_934 (by decide) ?_
            exact kk _ _ _ hP hD hS (lv_sub hl [2, 3, 4, 5, 6] rfl)
          · exact absurd ((lg_cmp_eq _ _).mpr (hbv h919)) h929
      · exact absurd hk h912
set_option maxHeartbeats 4000000 in
set_option maxRecDepth 100000 in
theorem lw_changed {p : Program} {l : Launch} {e : Env} {s : State} {m : MethodId} {below : List Frame} {meth : Method} {c : Code} {b Ls : Nat} {xs : Nat → Int32} {Q : State → Prop} {D : va_G} {g : Nat → Nat} {k : Nat → ClassId} {L qo i cells slots : Nat} {u u1 : DSt} {f0 f1 : Nat → Int32} {tl tl1 : Nat} {tp tp1 : Nat → Int32} {fo fo1 : Nat → Int64} {r r1 : RSt} {k9 : Int32} {b9 : Int32}
    (C0 : lw_At p s m meth c b Ls xs) (hLs : Ls ≤ 2561) (hXp : xP (fun q => s.heap.size ≤ q) s s.heap) (hK : va_K D cl5 (tyC k) s) (hL0 : 96 ≤ L) (hL : L ≤ 768) (hi : i + 5 ≤ Ls) (hc1 : cells + 1 ≤ 601024) (hs1 : slots + 6 ≤ 7293000) (hrB : rB r1) 
    (hM1 : MuH l y_Law_changed w_Law_changed ({ frames := 8, cells := 1, slots := 6, locals := 132 }) [.ref (g 9), .int (xs (i + 1)), .ref qo] D cl5 (tyC k) (wX g k L u f0 tl tp qo fo) (wX g k L u1 f1 tl1 tp1 qo fo1) k9) (hM2 : MuI l y_Mod_changed w_Mod_changed ({ frames := 3, cells := 0, slots := 0, locals := 70 }) [.ref (g 20), .int (xs (i + 1))] D cl5 (tyC k) (wM g k L r) (wM g k L r1) b9) (hk : rTh r1 = k9) (hbv : k9 = 0 → fo1 0 = b9.toInt64)
    (kk : ∀ (H : Heap) (locs : List Loc) (ls : Array Slot), va_P D cl5 (wL g k L u1 f1 tl1 tp1 qo fo1 r1) H → va_D (fun q => s.heap.size ≤ q) (wL g k L u1 f1 tl1 tp1 qo fo1 r1) → va_S (fun q => s.heap.size ≤ q) s.heap H locs → lv_has ls 8 [(0, .ref b), (1, .ref (g 9)), (2, .ref (g 20)), (3, .ref qo), (4, .int (nI i))] → W p l e room_1 s m #[Value.ref b] below meth c H locs (cells + 1) (slots + 6) Q (F0 m 1049 ls []))
    (H : Heap) (locs : List Loc) (ls : Array Slot) (hP : va_P D cl5 (wL g k L u f0 tl tp qo fo r) H) (hD : va_D (fun q => s.heap.size ≤ q) (wL g k L u f0 tl tp qo fo r)) (hS : va_S (fun q => s.heap.size ≤ q) s.heap H locs) (hl : lv_has ls 8 [(0, .ref b), (1, .ref (g 9)), (2, .ref (g 20)), (3, .ref qo), (4, .int (nI i))]) : W p l e room_1 s m #[Value.ref b] below meth c H locs cells slots Q (F0 m 937 ls []) := by
  obtain ⟨hx, hb, hr, hml, hown, hts, hXs, hbl, hlocks, hgv⟩ := C0
  have hTB : ∀ w ∈ lw_tb, w.before #[Value.ref b] s = true := fun w h => hts w (List.mem_filter.mp h).1
  have hA : ∀ q : Nat, s.heap.size ≤ q → (fun q : Nat => s.heap.size ≤ q) q := fun _ h => h
  have hbA : ¬ (fun q : Nat => s.heap.size ≤ q) b := Nat.not_le.mpr hbl
  generalize hAe : (fun q : Nat => s.heap.size ≤ q) = A at *
  refine lv_aload_n hx hb d_law_937 rfl (lv_at hl 1 rfl) ?_
  refine lv_aload_n hx hb d_law_938 rfl (lv_at hl 0 rfl) ?_
  refine lv_iload hx hb d_law_939 (lv_at hl 4 rfl) ?_
  refine lv_iconst (v := nI 1) hx hb d_law_941 (by decide +kernel) ?_
  refine gz_iadd hx hb d_law_942 ?_
  refine gz_sld hx hb hXs hbl hbA hS (i := i + 1) (by omega) (by omega) d_law_943 ?_
  refine lv_aload_n hx hb d_law_944 rfl (lv_at hl 3 rfl) ?_
  refine gz_hI (As := [.ref (g 9), .int (xs (i + 1)), .ref qo]) (rest := []) (wc := (wX g k L u f0 tl tp qo fo)) (w1 := (wX g k L u1 f1 tl1 tp1 qo fo1)) (wr := (wM g k L r)) ⟨hx, hb, hml, hown, hTB⟩ hM1 (vx_cwSW 3 hTB (gd_SW k_574 k_575 k_50 k_50 kc_changed) rfl rfl rfl (by decide +kernel) ⟨Nat.le_of_ble_eq_true rfl, Nat.le_of_ble_eq_true rfl⟩) hXp hK hP hD hA [0, 1, 2, 3, 4, 5, 6, 7, 8, 9, 10, 11] [12, 13, 14, 15, 16, 17, 18, 19, 20, 21, 22] rfl rfl (by decide) rfl (by decide) (by decide) rfl hl.1 rfl (Nat.le_of_ble_eq_true rfl) d_law_945 ⟨hc1, hs1⟩ hS (fun H locs hP hD hS => ?_)
  have hP : va_P D cl5 (wL g k L u1 f1 tl1 tp1 qo fo1 r) H := hP.sub [11, 12, 13, 14, 15, 16, 17, 18, 19, 20, 21, 22, 0, 1, 2, 3, 4, 5, 6, 7, 8, 9, 10] rfl
  have hD : va_D A (wL g k L u1 f1 tl1 tp1 qo fo1 r) := hD.sub [11, 12, 13, 14, 15, 16, 17, 18, 19, 20, 21, 22, 0, 1, 2, 3, 4, 5, 6, 7, 8, 9, 10] (by decide) rfl
  refine lv_istore (lv' := [(5, .int (k9)), (0, .ref b), (1, .ref (g 9)), (2, .ref (g 20)), (3, .ref qo), (4, .int (nI i))]) hx hb d_law_948 hl (by decide) rfl (fun ls hl => ?_)
  refine lv_aload_n hx hb d_law_950 rfl (lv_at hl 3 rfl) ?_
  refine lv_aload_n hx hb d_law_951 rfl (lv_at hl 1 rfl) ?_
  refine lv_iload hx hb d_law_952 (lv_at hl 5 rfl) ?_
  refine lv_iconst (v := nI 1) hx hb d_law_954 (by decide +kernel) ?_
  refine gz_iadd hx hb d_law_955 ?_
  refine gz_sld hx hb hXs hbl hbA hS (i := i + 1) (by omega) (by omega) d_law_956 ?_
  refine gz_muI (As := [.int (xs (i + 1))]) (rest := []) (wc := (wM g k L r)) (w1 := (wM g k L r1)) (wr := (wX g k L u1 f1 tl1 tp1 qo fo1)) ⟨hx, hb, hml, hown, hTB⟩ hM2 (cwV 1 hTB (gd_V k_866 k_867 k_868 k_56 k_869) rfl rfl rfl (by decide +kernel) ⟨Nat.le_of_ble_eq_true rfl, Nat.le_of_ble_eq_true rfl⟩) hK hP hD hA [12, 13, 14, 15, 16, 17, 18, 19, 20, 21, 22] [0, 1, 2, 3, 4, 5, 6, 7, 8, 9, 10, 11] rfl rfl (by decide) rfl (by decide) (by decide) 12 rfl rfl rfl hl.1 rfl (Nat.le_of_ble_eq_true rfl) d_law_957 ⟨hc1, hs1⟩ hS (fun H locs hP hD hS => ?_)
  have hP : va_P D cl5 (wL g k L u1 f1 tl1 tp1 qo fo1 r1) H := hP.sub [0, 1, 2, 3, 4, 5, 6, 7, 8, 9, 10, 11, 12, 13, 14, 15, 16, 17, 18, 19, 20, 21, 22] rfl
  have hD : va_D A (wL g k L u1 f1 tl1 tp1 qo fo1 r1) := hD.sub [0, 1, 2, 3, 4, 5, 6, 7, 8, 9, 10, 11, 12, 13, 14, 15, 16, 17, 18, 19, 20, 21, 22] (by decide) rfl
  refine lv_istore (lv' := [(6, .int (b9)), (5, .int (k9)), (0, .ref b), (1, .ref (g 9)), (2, .ref (g 20)), (3, .ref qo), (4, .int (nI i))]) hx hb d_law_960 hl (by decide) rfl (fun ls hl => ?_)
  refine lv_aload_n hx hb d_law_962 rfl (lv_at hl 4 rfl) ?_
  refine gz_roV (As := []) (rest := []) (wc := (wM g k L r1)) ⟨hx, hb, hml, hown, hTB⟩ (c_Mod_thrown l D g k L hL0 hL r1 hrB) (cwV 0 hTB (gd_V k_687 k_688 k_689 k_56 k_690) rfl rfl rfl (by decide +kernel) ⟨Nat.le_of_ble_eq_true rfl, Nat.le_of_ble_eq_true rfl⟩) hK hP [12, 13, 14, 15, 16, 17, 18, 19, 20, 21, 22] rfl 12 rfl rfl rfl hl.1 rfl (Nat.le_of_ble_eq_true rfl) d_law_963 ⟨hc1, hs1⟩ hS (fun H locs hP hS => ?_)
  refine lv_iload hx hb d_law_966 (lv_at hl 1 rfl) ?_
  refine lv_icmp_eq (tgt := 973) hx hb d_law_968 (by decide) (fun h968 => ?_) (fun h968 => ?_)
  · refine lv_iload hx hb d_law_973 (lv_at hl 1 rfl) ?_
    refine lv_if_ne (tgt := 990) hx hb d_law_975 (by decide) (fun h975 => ?_) (fun h975 => ?_)
    · refine lv_goto (tgt := 1049) hx hb d_law_990 (by decide) ?_
      exact kk _ _ _ hP hD hS (lv_sub hl [2, 3, 4, 5, 6] rfl)
    · refine lv_aload_n hx hb d_law_978 rfl (lv_at hl 5 rfl) ?_
      refine lv_iconst (v := nI 0) hx hb d_law_979 (by decide +kernel) ?_
      refine gz_lald hx hb hK hP 11 0 rfl rfl (i := 0) (by omega) (by omega) d_law_980 ?_
      refine lv_iload hx hb d_law_981 (lv_at hl 0 rfl) ?_
      refine lv_i2l hx hb d_law_983 rfl ?_
      refine W.lcmp hx hb d_law_984 ?_
      refine lv_if_eq (tgt := 990) hx hb d_law_985 (by decide) (fun h985 => ?_) (fun h985 => ?_)
      · refine lv_goto (tgt := 1049) hx hb d_law_990 (by decide) ?_
        exact kk _ _ _ hP hD hS (lv_sub hl [2, 3, 4, 5, 6] rfl)
      · exact absurd ((lg_cmp_eq _ _).mpr (hbv h975)) h985
  · exact absurd hk h968
set_option maxHeartbeats 4000000 in
set_option maxRecDepth 100000 in
theorem lw_look {p : Program} {l : Launch} {e : Env} {s : State} {m : MethodId} {below : List Frame} {meth : Method} {c : Code} {b Ls : Nat} {xs : Nat → Int32} {Q : State → Prop} {D : va_G} {g : Nat → Nat} {k : Nat → ClassId} {L qo i cells slots : Nat} {u u1 : DSt} {f0 f1 : Nat → Int32} {tl tl1 : Nat} {tp tp1 : Nat → Int32} {fo fo1 : Nat → Int64} {r r1 : RSt} {k9 : Int32} {b9 : Int32}
    (C0 : lw_At p s m meth c b Ls xs) (hLs : Ls ≤ 2561) (hXp : xP (fun q => s.heap.size ≤ q) s s.heap) (hK : va_K D cl5 (tyC k) s) (hL0 : 96 ≤ L) (hL : L ≤ 768) (hi : i + 5 ≤ Ls) (hc1 : cells + 1 ≤ 601024) (hs1 : slots + 6 ≤ 7293000) (hrB : rB r1) 
    (hM1 : MuH l y_Law_look w_Law_look ({ frames := 8, cells := 1, slots := 6, locals := 131 }) [.ref (g 9), .int (xs (i + 1)), .ref qo] D cl5 (tyC k) (wX g k L u f0 tl tp qo fo) (wX g k L u1 f1 tl1 tp1 qo fo1) k9) (hM2 : MuI l y_Mod_look w_Mod_look ({ frames := 4, cells := 0, slots := 0, locals := 92 }) [.ref (g 20), .int (xs (i + 1))] D cl5 (tyC k) (wM g k L r) (wM g k L r1) b9) (hk : rTh r1 = k9) (hbv : k9 = 0 → fo1 0 = b9.toInt64)
    (kk : ∀ (H : Heap) (locs : List Loc) (ls : Array Slot), va_P D cl5 (wL g k L u1 f1 tl1 tp1 qo fo1 r1) H → va_D (fun q => s.heap.size ≤ q) (wL g k L u1 f1 tl1 tp1 qo fo1 r1) → va_S (fun q => s.heap.size ≤ q) s.heap H locs → lv_has ls 8 [(0, .ref b), (1, .ref (g 9)), (2, .ref (g 20)), (3, .ref qo), (4, .int (nI i))] → W p l e room_1 s m #[Value.ref b] below meth c H locs (cells + 1) (slots + 6) Q (F0 m 1049 ls []))
    (H : Heap) (locs : List Loc) (ls : Array Slot) (hP : va_P D cl5 (wL g k L u f0 tl tp qo fo r) H) (hD : va_D (fun q => s.heap.size ≤ q) (wL g k L u f0 tl tp qo fo r)) (hS : va_S (fun q => s.heap.size ≤ q) s.heap H locs) (hl : lv_has ls 8 [(0, .ref b), (1, .ref (g 9)), (2, .ref (g 20)), (3, .ref qo), (4, .int (nI i))]) : W p l e room_1 s m #[Value.ref b] below meth c H locs cells slots Q (F0 m 993 ls []) := by
  obtain ⟨hx, hb, hr, hml, hown, hts, hXs, hbl, hlocks, hgv⟩ := C0
  have hTB : ∀ w ∈ lw_tb, w.before #[Value.ref b] s = true := fun w h => hts w (List.mem_filter.mp h).1
  have hA : ∀ q : Nat, s.heap.size ≤ q → (fun q : Nat => s.heap.size ≤ q) q := fun _ h => h
  have hbA : ¬ (fun q : Nat => s.heap.size ≤ q) b := Nat.not_le.mpr hbl
  generalize hAe : (fun q : Nat => s.heap.size ≤ q) = A at *
  refine lv_aload_n hx hb d_law_993 rfl (lv_at hl 1 rfl) ?_
  refine lv_aload_n hx hb d_law_994 rfl (lv_at hl 0 rfl) ?_
  refine lv_iload hx hb d_law_995 (lv_at hl 4 rfl) ?_
  refine lv_iconst (v := nI 1) hx hb d_law_997 (by decide +kernel) ?_
  refine gz_iadd hx hb d_law_998 ?_
  refine gz_sld hx hb hXs hbl hbA hS (i := i + 1) (by omega) (by omega) d_law_999 ?_
  refine lv_aload_n hx hb d_law_1000 rfl (lv_at hl 3 rfl) ?_
  refine gz_hI (As := [.ref (g 9), .int (xs (i + 1)), .ref qo]) (rest := []) (wc := (wX g k L u f0 tl tp qo fo)) (w1 := (wX g k L u1 f1 tl1 tp1 qo fo1)) (wr := (wM g k L r)) ⟨hx, hb, hml, hown, hTB⟩ hM1 (vx_cwSW 3 hTB (gd_SW k_586 k_587 k_50 k_50 kc_look) rfl rfl rfl (by decide +kernel) ⟨Nat.le_of_ble_eq_true rfl, Nat.le_of_ble_eq_true rfl⟩) hXp hK hP hD hA [0, 1, 2, 3, 4, 5, 6, 7, 8, 9, 10, 11] [12, 13, 14, 15, 16, 17, 18, 19, 20, 21, 22] rfl rfl (by decide) rfl (by decide) (by decide) rfl hl.1 rfl (Nat.le_of_ble_eq_true rfl) d_law_1001 ⟨hc1, hs1⟩ hS (fun H locs hP hD hS => ?_)
  have hP : va_P D cl5 (wL g k L u1 f1 tl1 tp1 qo fo1 r) H := hP.sub [11, 12, 13, 14, 15, 16, 17, 18, 19, 20, 21, 22, 0, 1, 2, 3, 4, 5, 6, 7, 8, 9, 10] rfl
  have hD : va_D A (wL g k L u1 f1 tl1 tp1 qo fo1 r) := hD.sub [11, 12, 13, 14, 15, 16, 17, 18, 19, 20, 21, 22, 0, 1, 2, 3, 4, 5, 6, 7, 8, 9, 10] (by decide) rfl
  refine lv_istore (lv' := [(5, .int (k9)), (0, .ref b), (1, .ref (g 9)), (2, .ref (g 20)), (3, .ref qo), (4, .int (nI i))]) hx hb d_law_1004 hl (by decide) rfl (fun ls hl => ?_)
  refine lv_aload_n hx hb d_law_1006 rfl (lv_at hl 3 rfl) ?_
  refine lv_aload_n hx hb d_law_1007 rfl (lv_at hl 1 rfl) ?_
  refine lv_iload hx hb d_law_1008 (lv_at hl 5 rfl) ?_
  refine lv_iconst (v := nI 1) hx hb d_law_1010 (by decide +kernel) ?_
  refine gz_iadd hx hb d_law_1011 ?_
  refine gz_sld hx hb hXs hbl hbA hS (i := i + 1) (by omega) (by omega) d_law_1012 ?_
  refine gz_muI (As := [.int (xs (i + 1))]) (rest := []) (wc := (wM g k L r)) (w1 := (wM g k L r1)) (wr := (wX g k L u1 f1 tl1 tp1 qo fo1)) ⟨hx, hb, hml, hown, hTB⟩ hM2 (cwV 1 hTB (gd_V k_870 k_871 k_872 k_56 k_873) rfl rfl rfl (by decide +kernel) ⟨Nat.le_of_ble_eq_true rfl, Nat.le_of_ble_eq_true rfl⟩) hK hP hD hA [12, 13, 14, 15, 16, 17, 18, 19, 20, 21, 22] [0, 1, 2, 3, 4, 5, 6, 7, 8, 9, 10, 11] rfl rfl (by decide) rfl (by decide) (by decide) 12 rfl rfl rfl hl.1 rfl (Nat.le_of_ble_eq_true rfl) d_law_1013 ⟨hc1, hs1⟩ hS (fun H locs hP hD hS => ?_)
  have hP : va_P D cl5 (wL g k L u1 f1 tl1 tp1 qo fo1 r1) H := hP.sub [0, 1, 2, 3, 4, 5, 6, 7, 8, 9, 10, 11, 12, 13, 14, 15, 16, 17, 18, 19, 20, 21, 22] rfl
  have hD : va_D A (wL g k L u1 f1 tl1 tp1 qo fo1 r1) := hD.sub [0, 1, 2, 3, 4, 5, 6, 7, 8, 9, 10, 11, 12, 13, 14, 15, 16, 17, 18, 19, 20, 21, 22] (by decide) rfl
  refine lv_istore (lv' := [(6, .int (b9)), (5, .int (k9)), (0, .ref b), (1, .ref (g 9)), (2, .ref (g 20)), (3, .ref qo), (4, .int (nI i))]) hx hb d_law_1016 hl (by decide) rfl (fun ls hl => ?_)
  refine lv_aload_n hx hb d_law_1018 rfl (lv_at hl 4 rfl) ?_
  refine gz_roV (As := []) (rest := []) (wc := (wM g k L r1)) ⟨hx, hb, hml, hown, hTB⟩ (c_Mod_thrown l D g k L hL0 hL r1 hrB) (cwV 0 hTB (gd_V k_687 k_688 k_689 k_56 k_690) rfl rfl rfl (by decide +kernel) ⟨Nat.le_of_ble_eq_true rfl, Nat.le_of_ble_eq_true rfl⟩) hK hP [12, 13, 14, 15, 16, 17, 18, 19, 20, 21, 22] rfl 12 rfl rfl rfl hl.1 rfl (Nat.le_of_ble_eq_true rfl) d_law_1019 ⟨hc1, hs1⟩ hS (fun H locs hP hS => ?_)
  refine lv_iload hx hb d_law_1022 (lv_at hl 1 rfl) ?_
  refine lv_icmp_eq (tgt := 1029) hx hb d_law_1024 (by decide) (fun h1024 => ?_) (fun h1024 => ?_)
  · refine lv_iload hx hb d_law_1029 (lv_at hl 1 rfl) ?_
    refine lv_if_ne (tgt := 1046) hx hb d_law_1031 (by decide) (fun h1031 => ?_) (fun h1031 => ?_)
    · refine lv_goto (tgt := 1049) hx hb d_law_1046 (by decide) ?_
      exact kk _ _ _ hP hD hS (lv_sub hl [2, 3, 4, 5, 6] rfl)
    · refine lv_aload_n hx hb d_law_1034 rfl (lv_at hl 5 rfl) ?_
      refine lv_iconst (v := nI 0) hx hb d_law_1035 (by decide +kernel) ?_
      refine gz_lald hx hb hK hP 11 0 rfl rfl (i := 0) (by omega) (by omega) d_law_1036 ?_
      refine lv_iload hx hb d_law_1037 (lv_at hl 0 rfl) ?_
      refine lv_i2l hx hb d_law_1039 rfl ?_
      refine W.lcmp hx hb d_law_1040 ?_
      refine lv_if_eq (tgt := 1046) hx hb d_law_1041 (by decide) (fun h1041 => ?_) (fun h1041 => ?_)
      · refine lv_goto (tgt := 1049) hx hb d_law_1046 (by decide) ?_
        exact kk _ _ _ hP hD hS (lv_sub hl [2, 3, 4, 5, 6] rfl)
      · exact absurd ((lg_cmp_eq _ _).mpr (hbv h1031)) h1041
  · exact absurd hk h1024
