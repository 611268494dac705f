theorem d_Mod_moves_0 : decode b_Mod_moves 0 = .ok (.aload_n 0, 1) := by decide +kernel
theorem d_Mod_moves_1 : decode b_Mod_moves 1 = .ok (.iload_n 1, 1) := by decide +kernel
theorem d_Mod_moves_2 : decode b_Mod_moves 2 = .ok (.invokevirtual 117, 3) := by decide +kernel
theorem d_Mod_moves_5 : decode b_Mod_moves 5 = .ok (.ifCond .ge 9, 3) := by decide +kernel
theorem d_Mod_moves_8 : decode b_Mod_moves 8 = .ok (.aload_n 0, 1) := by decide +kernel
theorem d_Mod_moves_9 : decode b_Mod_moves 9 = .ok (.iload_n 1, 1) := by decide +kernel
theorem d_Mod_moves_10 : decode b_Mod_moves 10 = .ok (.invokevirtual 117, 3) := by decide +kernel
theorem d_Mod_moves_13 : decode b_Mod_moves 13 = .ok (.ireturn, 1) := by decide +kernel
theorem d_Mod_moves_14 : decode b_Mod_moves 14 = .ok (.aload_n 0, 1) := by decide +kernel
theorem d_Mod_moves_15 : decode b_Mod_moves 15 = .ok (.iload_n 1, 1) := by decide +kernel
theorem d_Mod_moves_16 : decode b_Mod_moves 16 = .ok (.iload_n 2, 1) := by decide +kernel
theorem d_Mod_moves_17 : decode b_Mod_moves 17 = .ok (.invokevirtual 100, 3) := by decide +kernel
theorem d_Mod_moves_20 : decode b_Mod_moves 20 = .ok (.istore 5, 2) := by decide +kernel
theorem d_Mod_moves_22 : decode b_Mod_moves 22 = .ok (.iload 5, 2) := by decide +kernel
theorem d_Mod_moves_24 : decode b_Mod_moves 24 = .ok (.ifCond .ge 5, 3) := by decide +kernel
theorem d_Mod_moves_27 : decode b_Mod_moves 27 = .ok (.iconst (-1), 1) := by decide +kernel
theorem d_Mod_moves_28 : decode b_Mod_moves 28 = .ok (.ireturn, 1) := by decide +kernel
theorem d_Mod_moves_29 : decode b_Mod_moves 29 = .ok (.aload_n 0, 1) := by decide +kernel
theorem d_Mod_moves_30 : decode b_Mod_moves 30 = .ok (.iload_n 1, 1) := by decide +kernel
theorem d_Mod_moves_31 : decode b_Mod_moves 31 = .ok (.iload 5, 2) := by decide +kernel
theorem d_Mod_moves_33 : decode b_Mod_moves 33 = .ok (.invokevirtual 114, 3) := by decide +kernel
theorem d_Mod_moves_36 : decode b_Mod_moves 36 = .ok (.istore 6, 2) := by decide +kernel
theorem d_Mod_moves_38 : decode b_Mod_moves 38 = .ok (.aload_n 0, 1) := by decide +kernel
theorem d_Mod_moves_39 : decode b_Mod_moves 39 = .ok (.iload_n 3, 1) := by decide +kernel
theorem d_Mod_moves_40 : decode b_Mod_moves 40 = .ok (.invokevirtual 117, 3) := by decide +kernel
theorem d_Mod_moves_43 : decode b_Mod_moves 43 = .ok (.ifCond .ge 9, 3) := by decide +kernel
theorem d_Mod_moves_46 : decode b_Mod_moves 46 = .ok (.aload_n 0, 1) := by decide +kernel
theorem d_Mod_moves_47 : decode b_Mod_moves 47 = .ok (.iload_n 3, 1) := by decide +kernel
theorem d_Mod_moves_48 : decode b_Mod_moves 48 = .ok (.invokevirtual 117, 3) := by decide +kernel
theorem d_Mod_moves_51 : decode b_Mod_moves 51 = .ok (.ireturn, 1) := by decide +kernel
theorem d_Mod_moves_52 : decode b_Mod_moves 52 = .ok (.aload_n 0, 1) := by decide +kernel
theorem d_Mod_moves_53 : decode b_Mod_moves 53 = .ok (.iload_n 3, 1) := by decide +kernel
theorem d_Mod_moves_54 : decode b_Mod_moves 54 = .ok (.iload 4, 2) := by decide +kernel
theorem d_Mod_moves_56 : decode b_Mod_moves 56 = .ok (.invokevirtual 100, 3) := by decide +kernel
theorem d_Mod_moves_59 : decode b_Mod_moves 59 = .ok (.istore 7, 2) := by decide +kernel
theorem d_Mod_moves_61 : decode b_Mod_moves 61 = .ok (.iload 7, 2) := by decide +kernel
theorem d_Mod_moves_63 : decode b_Mod_moves 63 = .ok (.ifCond .lt 17, 3) := by decide +kernel
theorem d_Mod_moves_66 : decode b_Mod_moves 66 = .ok (.iload_n 3, 1) := by decide +kernel
theorem d_Mod_moves_67 : decode b_Mod_moves 67 = .ok (.iload_n 1, 1) := by decide +kernel
theorem d_Mod_moves_68 : decode b_Mod_moves 68 = .ok (.if_icmp .ne 12, 3) := by decide +kernel
theorem d_Mod_moves_71 : decode b_Mod_moves 71 = .ok (.iload 7, 2) := by decide +kernel
theorem d_Mod_moves_73 : decode b_Mod_moves 73 = .ok (.iload 5, 2) := by decide +kernel
theorem d_Mod_moves_75 : decode b_Mod_moves 75 = .ok (.if_icmp .ne 5, 3) := by decide +kernel
theorem d_Mod_moves_78 : decode b_Mod_moves 78 = .ok (.iconst 0, 1) := by decide +kernel
theorem d_Mod_moves_79 : decode b_Mod_moves 79 = .ok (.ireturn, 1) := by decide +kernel
theorem d_Mod_moves_80 : decode b_Mod_moves 80 = .ok (.iload 7, 2) := by decide +kernel
theorem d_Mod_moves_82 : decode b_Mod_moves 82 = .ok (.ifCond .ge 7, 3) := by decide +kernel
theorem d_Mod_moves_85 : decode b_Mod_moves 85 = .ok (.iconst (-1), 1) := by decide +kernel
theorem d_Mod_moves_86 : decode b_Mod_moves 86 = .ok (.goto 10, 3) := by decide +kernel
theorem d_Mod_moves_89 : decode b_Mod_moves 89 = .ok (.aload_n 0, 1) := by decide +kernel
theorem d_Mod_moves_90 : decode b_Mod_moves 90 = .ok (.iload_n 3, 1) := by decide +kernel
theorem d_Mod_moves_91 : decode b_Mod_moves 91 = .ok (.iload 7, 2) := by decide +kernel
theorem d_Mod_moves_93 : decode b_Mod_moves 93 = .ok (.invokevirtual 114, 3) := by decide +kernel
theorem d_Mod_moves_96 : decode b_Mod_moves 96 = .ok (.istore 8, 2) := by decide +kernel
theorem d_Mod_moves_98 : decode b_Mod_moves 98 = .ok (.iload 8, 2) := by decide +kernel
theorem d_Mod_moves_100 : decode b_Mod_moves 100 = .ok (.ifCond .lt 21, 3) := by decide +kernel
theorem d_Mod_moves_103 : decode b_Mod_moves 103 = .ok (.aload_n 0, 1) := by decide +kernel
theorem d_Mod_moves_104 : decode b_Mod_moves 104 = .ok (.iload 6, 2) := by decide +kernel
theorem d_Mod_moves_106 : decode b_Mod_moves 106 = .ok (.invokevirtual 111, 3) := by decide +kernel
theorem d_Mod_moves_109 : decode b_Mod_moves 109 = .ok (.aload_n 0, 1) := by decide +kernel
theorem d_Mod_moves_110 : decode b_Mod_moves 110 = .ok (.iload 8, 2) := by decide +kernel
theorem d_Mod_moves_112 : decode b_Mod_moves 112 = .ok (.invokevirtual 111, 3) := by decide +kernel
theorem d_Mod_moves_115 : decode b_Mod_moves 115 = .ok (.if_icmp .eq 6, 3) := by decide +kernel
theorem d_Mod_moves_118 : decode b_Mod_moves 118 = .ok (.bipush (-5), 2) := by decide +kernel
theorem d_Mod_moves_120 : decode b_Mod_moves 120 = .ok (.ireturn, 1) := by decide +kernel
theorem d_Mod_moves_121 : decode b_Mod_moves 121 = .ok (.iload 8, 2) := by decide +kernel
theorem d_Mod_moves_123 : decode b_Mod_moves 123 = .ok (.ifCond .lt 25, 3) := by decide +kernel
theorem d_Mod_moves_126 : decode b_Mod_moves 126 = .ok (.aload_n 0, 1) := by decide +kernel
theorem d_Mod_moves_127 : decode b_Mod_moves 127 = .ok (.iload 8, 2) := by decide +kernel
theorem d_Mod_moves_129 : decode b_Mod_moves 129 = .ok (.invokevirtual 111, 3) := by decide +kernel
theorem d_Mod_moves_132 : decode b_Mod_moves 132 = .ok (.iconst 2, 1) := by decide +kernel
theorem d_Mod_moves_133 : decode b_Mod_moves 133 = .ok (.if_icmp .ne 15, 3) := by decide +kernel
theorem d_Mod_moves_136 : decode b_Mod_moves 136 = .ok (.aload_n 0, 1) := by decide +kernel
theorem d_Mod_moves_137 : decode b_Mod_moves 137 = .ok (.iload 8, 2) := by decide +kernel
theorem d_Mod_moves_139 : decode b_Mod_moves 139 = .ok (.invokevirtual 130, 3) := by decide +kernel
theorem d_Mod_moves_142 : decode b_Mod_moves 142 = .ok (.ifCond .ne 6, 3) := by decide +kernel
theorem d_Mod_moves_145 : decode b_Mod_moves 145 = .ok (.bipush (-6), 2) := by decide +kernel
theorem d_Mod_moves_147 : decode b_Mod_moves 147 = .ok (.ireturn, 1) := by decide +kernel
theorem d_Mod_moves_148 : decode b_Mod_moves 148 = .ok (.iload_n 3, 1) := by decide +kernel
theorem d_Mod_moves_149 : decode b_Mod_moves 149 = .ok (.istore 9, 2) := by decide +kernel
theorem d_Mod_moves_151 : decode b_Mod_moves 151 = .ok (.iload 9, 2) := by decide +kernel
theorem d_Mod_moves_153 : decode b_Mod_moves 153 = .ok (.ifCond .lt 34, 3) := by decide +kernel
theorem d_Mod_moves_156 : decode b_Mod_moves 156 = .ok (.aload_n 0, 1) := by decide +kernel
theorem d_Mod_moves_157 : decode b_Mod_moves 157 = .ok (.iload 6, 2) := by decide +kernel
theorem d_Mod_moves_159 : decode b_Mod_moves 159 = .ok (.invokevirtual 111, 3) := by decide +kernel
theorem d_Mod_moves_162 : decode b_Mod_moves 162 = .ok (.iconst 2, 1) := by decide +kernel
theorem d_Mod_moves_163 : decode b_Mod_moves 163 = .ok (.if_icmp .ne 24, 3) := by decide +kernel
theorem d_Mod_moves_166 : decode b_Mod_moves 166 = .ok (.iload 9, 2) := by decide +kernel
theorem d_Mod_moves_168 : decode b_Mod_moves 168 = .ok (.iload 6, 2) := by decide +kernel
theorem d_Mod_moves_170 : decode b_Mod_moves 170 = .ok (.if_icmp .ne 6, 3) := by decide +kernel
theorem d_Mod_moves_173 : decode b_Mod_moves 173 = .ok (.bipush (-7), 2) := by decide +kernel
theorem d_Mod_moves_175 : decode b_Mod_moves 175 = .ok (.ireturn, 1) := by decide +kernel
theorem d_Mod_moves_176 : decode b_Mod_moves 176 = .ok (.aload_n 0, 1) := by decide +kernel
theorem d_Mod_moves_177 : decode b_Mod_moves 177 = .ok (.iload 9, 2) := by decide +kernel
theorem d_Mod_moves_179 : decode b_Mod_moves 179 = .ok (.invokevirtual 133, 3) := by decide +kernel
theorem d_Mod_moves_182 : decode b_Mod_moves 182 = .ok (.istore 9, 2) := by decide +kernel
theorem d_Mod_moves_184 : decode b_Mod_moves 184 = .ok (.goto (-33), 3) := by decide +kernel
theorem d_Mod_moves_187 : decode b_Mod_moves 187 = .ok (.aload_n 0, 1) := by decide +kernel
theorem d_Mod_moves_188 : decode b_Mod_moves 188 = .ok (.iload_n 1, 1) := by decide +kernel
theorem d_Mod_moves_189 : decode b_Mod_moves 189 = .ok (.iload 5, 2) := by decide +kernel
theorem d_Mod_moves_191 : decode b_Mod_moves 191 = .ok (.iconst 0, 1) := by decide +kernel
theorem d_Mod_moves_192 : decode b_Mod_moves 192 = .ok (.iconst 0, 1) := by decide +kernel
theorem d_Mod_moves_193 : decode b_Mod_moves 193 = .ok (.invokevirtual 107, 3) := by decide +kernel
theorem d_Mod_moves_196 : decode b_Mod_moves 196 = .ok (.iload 8, 2) := by decide +kernel
theorem d_Mod_moves_198 : decode b_Mod_moves 198 = .ok (.ifCond .ge 22, 3) := by decide +kernel
theorem d_Mod_moves_201 : decode b_Mod_moves 201 = .ok (.aload_n 0, 1) := by decide +kernel
theorem d_Mod_moves_202 : decode b_Mod_moves 202 = .ok (.iload_n 3, 1) := by decide +kernel
theorem d_Mod_moves_203 : decode b_Mod_moves 203 = .ok (.iload 4, 2) := by decide +kernel
theorem d_Mod_moves_205 : decode b_Mod_moves 205 = .ok (.iload 6, 2) := by decide +kernel
theorem d_Mod_moves_207 : decode b_Mod_moves 207 = .ok (.invokevirtual 120, 3) := by decide +kernel
theorem d_Mod_moves_210 : decode b_Mod_moves 210 = .ok (.ifCond .eq 7, 3) := by decide +kernel
theorem d_Mod_moves_213 : decode b_Mod_moves 213 = .ok (.iconst 0, 1) := by decide +kernel
theorem d_Mod_moves_214 : decode b_Mod_moves 214 = .ok (.goto 5, 3) := by decide +kernel
theorem d_Mod_moves_217 : decode b_Mod_moves 217 = .ok (.bipush (-4), 2) := by decide +kernel
theorem d_Mod_moves_219 : decode b_Mod_moves 219 = .ok (.ireturn, 1) := by decide +kernel
theorem d_Mod_moves_220 : decode b_Mod_moves 220 = .ok (.aload_n 0, 1) := by decide +kernel
theorem d_Mod_moves_221 : decode b_Mod_moves 221 = .ok (.iload 8, 2) := by decide +kernel
theorem d_Mod_moves_223 : decode b_Mod_moves 223 = .ok (.invokevirtual 136, 3) := by decide +kernel
theorem d_Mod_moves_226 : decode b_Mod_moves 226 = .ok (.aload_n 0, 1) := by decide +kernel
theorem d_Mod_moves_227 : decode b_Mod_moves 227 = .ok (.iload_n 3, 1) := by decide +kernel
theorem d_Mod_moves_228 : decode b_Mod_moves 228 = .ok (.iload 7, 2) := by decide +kernel
theorem d_Mod_moves_230 : decode b_Mod_moves 230 = .ok (.iload 4, 2) := by decide +kernel
theorem d_Mod_moves_232 : decode b_Mod_moves 232 = .ok (.iload 6, 2) := by decide +kernel
theorem d_Mod_moves_234 : decode b_Mod_moves 234 = .ok (.invokevirtual 107, 3) := by decide +kernel
theorem d_Mod_moves_237 : decode b_Mod_moves 237 = .ok (.iconst 0, 1) := by decide +kernel
theorem d_Mod_moves_238 : decode b_Mod_moves 238 = .ok (.ireturn, 1) := by decide +kernel
set_option maxHeartbeats 4000000 in
set_option maxRecDepth 100000 in
theorem c_Mod_moves (l : Launch) (D : va_G) (g : Nat → Nat) (k : Nat → ClassId) (L : Nat) (hL0 : 96 ≤ L) (hL : L ≤ 768) (r : RSt) (hrB : rB r) (d w d2 w2 : Nat) (hd0 : d < 64) (hw0 : w < 65536) (hd2 : d2 < 64) (hw2 : w2 < 65536) (hs0 : rNd r (20 * d2 + 1) < 65000) (hok : okR L r) (hE : 0 ≤ bdR r d → ∀ e, e < rNd r (20 * d + 1) / 4 → iaR r d e < 64) (hE2 : 0 ≤ bdR r d2 → ∀ e, e < rNd r (20 * d2 + 1) / 4 → iaR r d2 e < 64) (hN2 : 0 ≤ bdR r d2 → ∀ e, e < rNd r (20 * d2 + 1) / 4 → nmR r d2 e = w2 → iaR r d2 e ≠ d2) (hU : 0 ≤ bdR r d2 → ∀ i, i < 64 → upE r i 65 (nI d2) = true) : MuI l y_Mod_moves w_Mod_moves ({ frames := 5, cells := 0, slots := 0, locals := 116 }) [.ref (g 20), .int (nI d), .int (nI w), .int (nI d2), .int (nI w2)] D cl5 (tyC k) (wM g k L r) (wM g k L ((mvR L r d w d2 w2).2)) ((mvR L r d w d2 w2).1) := by
  intro sz
  refine Met.ofW (cc := b_Mod_moves) (maxL := 10) (ret := (some .int)) (by decide) rfl ?_
  intro p9 e9 s m args9 below9 meth9 c9 s₁ B hml hv
  obtain ⟨rfl, hsz, hP, hK, hD0⟩ := hv
  have hx := B.exec
  have hb := B.bytes
  have hr := B.returns
  have hts := atoms_spec (ws := w_Mod_moves) B.pre
  have hTB : ∀ w ∈ lw_tb, w.before _ s = true := fun w h => hts w (List.mem_cons_of_mem _ h)
  have hown : s.vm.findClass R_Mod = some m.cls := findClass_of_methodNamed B.named
  have hlocks := B.notSynchronized
  subst hsz
  have hD := hD0.self (sz := s.heap.size)
  generalize hAe : va_A (wM g k L r) s.heap.size = A at hD ⊢
  have hA : ∀ q : Nat, s.heap.size ≤ q → A q := fun q h => by rw [← hAe]; exact Or.inr h
  have hS : va_S A s.heap s.heap [] := va_S.rf
  have hl := lv_entry ([.ref (g 20), .int (nI d), .int (nI w), .int (nI d2), .int (nI w2)]) (n := 10) (Nat.le_of_ble_eq_true rfl)
  rw [lg_entry_eq]
  generalize (lg_sl ([.ref (g 20), .int (nI d), .int (nI w), .int (nI d2), .int (nI w2)]) ++ List.replicate (10 - (lg_sl ([.ref (g 20), .int (nI d), .int (nI w), .int (nI d2), .int (nI w2)])).length) Slot.unset).toArray = ls at hl ⊢
  have hl : lv_has ls 10 [(0, .ref (g 20)), (1, .int (nI d)), (2, .int (nI w)), (3, .int (nI d2)), (4, .int (nI w2))] := hl
  obtain ⟨hwf, hS0, hW⟩ := id hok
  have hX := wf_X hwf
  have hG := wf_G hwf hL
  refine lv_aload_n hx hb d_Mod_moves_0 rfl (lv_at hl 0 rfl) ?_
  refine lv_iload_n hx hb d_Mod_moves_1 rfl (lv_at hl 1 rfl) ?_
  refine gz_roV (As := [.int (nI d)]) (rest := []) (wc := (wM g k L r)) ⟨hx, hb, hml, hown, hTB⟩ (c_Mod_badDirectory l D g k L hL0 hL r hrB d (by omega)) (cwV 1 hTB (gd_V k_730 k_732 k_26 k_56 k_733) rfl rfl rfl (by decide +kernel) ⟨Nat.le_of_ble_eq_true rfl, Nat.le_of_ble_eq_true rfl⟩) hK hP [0, 1, 2, 3, 4, 5, 6, 7, 8, 9, 10] rfl 0 rfl rfl rfl hl.1 rfl (Nat.le_of_ble_eq_true rfl) d_Mod_moves_2 ⟨Nat.zero_le _, Nat.zero_le _⟩ hS (fun H locs hP hS => ?_)
  refine lv_if_ge (tgt := 14) hx hb d_Mod_moves_5 (by decide) (fun h5 => ?_) (fun h5 => ?_)
  · refine lv_aload_n hx hb d_Mod_moves_14 rfl (lv_at hl 0 rfl) ?_
    refine lv_iload_n hx hb d_Mod_moves_15 rfl (lv_at hl 1 rfl) ?_
    refine lv_iload_n hx hb d_Mod_moves_16 rfl (lv_at hl 2 rfl) ?_
    refine gz_roV (As := [.int (nI d), .int (nI w)]) (rest := []) (wc := (wM g k L r)) ⟨hx, hb, hml, hown, hTB⟩ (c_Mod_entryOf l D g k L hL0 hL r hrB d w (by omega) (by omega) hX hG hS0 hW) (cwV 2 hTB (gd_V k_738 k_740 k_28 k_56 k_741) rfl rfl rfl (by decide +kernel) ⟨Nat.le_of_ble_eq_true rfl, Nat.le_of_ble_eq_true rfl⟩) hK hP [0, 1, 2, 3, 4, 5, 6, 7, 8, 9, 10] rfl 0 rfl rfl rfl hl.1 rfl (Nat.le_of_ble_eq_true rfl) d_Mod_moves_17 ⟨Nat.zero_le _, Nat.zero_le _⟩ hS (fun H locs hP hS => ?_)
    refine lv_istore (lv' := [(5, .int (eoR r d w)), (0, .ref (g 20)), (1, .int (nI d)), (2, .int (nI w)), (3, .int (nI d2)), (4, .int (nI w2))]) hx hb d_Mod_moves_20 hl (by decide) rfl (fun ls hl => ?_)
    refine lv_iload hx hb d_Mod_moves_22 (lv_at hl 0 rfl) ?_
    refine lv_if_ge (tgt := 29) hx hb d_Mod_moves_24 (by decide) (fun h24 => ?_) (fun h24 => ?_)
    · obtain ⟨j, hj, ej, -⟩ := eoR_of h24
      have hl : lv_has ls 10 [(5, .int (nI j)), (0, .ref (g 20)), (1, .int (nI d)), (2, .int (nI w)), (3, .int (nI d2)), (4, .int (nI w2))] := by rw [← ej]; exact hl
      have hsd := hS0 d hd0
      have hsb := (hrB (20 * d + 1)).2.1
      have hia := hE h5 j hj
      refine lv_aload_n hx hb d_Mod_moves_29 rfl (lv_at hl 1 rfl) ?_
      refine lv_iload_n hx hb d_Mod_moves_30 rfl (lv_at hl 2 rfl) ?_
      refine lv_iload hx hb d_Mod_moves_31 (lv_at hl 0 rfl) ?_
      refine gz_roV (As := [.int (nI d), .int (nI j)]) (rest := []) (wc := (wM g k L r)) ⟨hx, hb, hml, hown, hTB⟩ (c_Mod_inodeAt l D g k L hL0 hL r hrB d j (by omega) (by omega) hX hG (by omega)) (cwV 2 hTB (gd_V k_802 k_804 k_44 k_56 k_805) rfl rfl rfl (by decide +kernel) ⟨Nat.le_of_ble_eq_true rfl, Nat.le_of_ble_eq_true rfl⟩) hK hP [0, 1, 2, 3, 4, 5, 6, 7, 8, 9, 10] rfl 0 rfl rfl rfl hl.1 rfl (Nat.le_of_ble_eq_true rfl) d_Mod_moves_33 ⟨Nat.zero_le _, Nat.zero_le _⟩ hS (fun H locs hP hS => ?_)
      have : iaR r d j < 65536 := (hrB _).2.2.2.1
      refine lv_istore (lv' := [(6, .int (nI (iaR r d j))), (5, .int (nI j)), (0, .ref (g 20)), (1, .int (nI d)), (2, .int (nI w)), (3, .int (nI d2)), (4, .int (nI w2))]) hx hb d_Mod_moves_36 hl (by decide) rfl (fun ls hl => ?_)
      refine lv_aload_n hx hb d_Mod_moves_38 rfl (lv_at hl 2 rfl) ?_
      refine lv_iload_n hx hb d_Mod_moves_39 rfl (lv_at hl 5 rfl) ?_
      refine gz_roV (As := [.int (nI d2)]) (rest := []) (wc := (wM g k L r)) ⟨hx, hb, hml, hown, hTB⟩ (c_Mod_badDirectory l D g k L hL0 hL r hrB d2 (by omega)) (cwV 1 hTB (gd_V k_730 k_732 k_26 k_56 k_733) rfl rfl rfl (by decide +kernel) ⟨Nat.le_of_ble_eq_true rfl, Nat.le_of_ble_eq_true rfl⟩) hK hP [0, 1, 2, 3, 4, 5, 6, 7, 8, 9, 10] rfl 0 rfl rfl rfl hl.1 rfl (Nat.le_of_ble_eq_true rfl) d_Mod_moves_40 ⟨Nat.zero_le _, Nat.zero_le _⟩ hS (fun H locs hP hS => ?_)
      refine lv_if_ge (tgt := 52) hx hb d_Mod_moves_43 (by decide) (fun h43 => ?_) (fun h43 => ?_)
      · refine lv_aload_n hx hb d_Mod_moves_52 rfl (lv_at hl 2 rfl) ?_
        refine lv_iload_n hx hb d_Mod_moves_53 rfl (lv_at hl 5 rfl) ?_
        refine lv_iload hx hb d_Mod_moves_54 (lv_at hl 6 rfl) ?_
        refine gz_roV (As := [.int (nI d2), .int (nI w2)]) (rest := []) (wc := (wM g k L r)) ⟨hx, hb, hml, hown, hTB⟩ (c_Mod_entryOf l D g k L hL0 hL r hrB d2 w2 (by omega) (by omega) hX hG hS0 hW) (cwV 2 hTB (gd_V k_738 k_740 k_28 k_56 k_741) rfl rfl rfl (by decide +kernel) ⟨Nat.le_of_ble_eq_true rfl, Nat.le_of_ble_eq_true rfl⟩) hK hP [0, 1, 2, 3, 4, 5, 6, 7, 8, 9, 10] rfl 0 rfl rfl rfl hl.1 rfl (Nat.le_of_ble_eq_true rfl) d_Mod_moves_56 ⟨Nat.zero_le _, Nat.zero_le _⟩ hS (fun H locs hP hS => ?_)
        refine lv_istore (lv' := [(7, .int (eoR r d2 w2)), (6, .int (nI (iaR r d j))), (5, .int (nI j)), (0, .ref (g 20)), (1, .int (nI d)), (2, .int (nI w)), (3, .int (nI d2)), (4, .int (nI w2))]) hx hb d_Mod_moves_59 hl (by decide) rfl (fun ls hl => ?_)
        refine lv_iload hx hb d_Mod_moves_61 (lv_at hl 0 rfl) ?_
        refine lv_if_lt (tgt := 80) hx hb d_Mod_moves_63 (by decide) (fun h63 => ?_) (fun h63 => ?_)
        · have hns : ¬ (0 ≤ eoR r d2 w2 ∧ d2 = d ∧ eoR r d2 w2 = eoR r d w) := fun z => absurd z.1 (Int32.not_le.mpr h63)
          refine lv_iload hx hb d_Mod_moves_80 (lv_at hl 0 rfl) ?_
          refine lv_if_ge (tgt := 89) hx hb d_Mod_moves_82 (by decide) (fun h82 => ?_) (fun h82 => ?_)
          · exact absurd h82 (Int32.not_le.mpr h63)
          · refine lv_iconst (v := (-1)) hx hb d_Mod_moves_85 (by decide +kernel) ?_
            refine lv_goto (tgt := 96) hx hb d_Mod_moves_86 (by decide) ?_
            refine lv_istore (lv' := [(8, .int ((-1))), (7, .int (eoR r d2 w2)), (6, .int (nI (iaR r d j))), (5, .int (nI j)), (0, .ref (g 20)), (1, .int (nI d)), (2, .int (nI w)), (3, .int (nI d2)), (4, .int (nI w2))]) hx hb d_Mod_moves_96 hl (by decide) rfl (fun ls hl => ?_)
            refine lv_iload hx hb d_Mod_moves_98 (lv_at hl 0 rfl) ?_
            refine lv_if_lt (tgt := 121) hx hb d_Mod_moves_100 (by decide) (fun h100 => ?_) (fun h100 => ?_)
            · refine lv_iload hx hb d_Mod_moves_121 (lv_at hl 0 rfl) ?_
              refine lv_if_lt (tgt := 148) hx hb d_Mod_moves_123 (by decide) (fun h123 => ?_) (fun h123 => ?_)
              · refine lv_iload_n hx hb d_Mod_moves_148 rfl (lv_at hl 7 rfl) ?_
                refine lv_istore (lv' := [(9, .int (nI d2)), (8, .int ((-1))), (7, .int (eoR r d2 w2)), (6, .int (nI (iaR r d j))), (5, .int (nI j)), (0, .ref (g 20)), (1, .int (nI d)), (2, .int (nI w)), (3, .int (nI d2)), (4, .int (nI w2))]) hx hb d_Mod_moves_149 hl (by decide) rfl (fun ls hl => ?_)
                refine gz_loop 151 (fun (zz : (Nat × Int32)) H locs ls => match zz with | (m1, x) => va_P D cl5 (wM g k L r) H ∧ va_D A (wM g k L r) ∧ va_S A s.heap H locs ∧ lv_has ls 10 [(8, .int ((-1))), (7, .int (eoR r d2 w2)), (6, .int (nI (iaR r d j))), (5, .int (nI j)), (0, .ref (g 20)), (1, .int (nI d)), (3, .int (nI d2)), (4, .int (nI w2)), (9, .int (x))] ∧ (x < 0 ∨ ∃ z, z < 64 ∧ x = nI z) ∧ (0 ≤ x → upE r (iaR r d j) m1 x = true) ∧ (upG r (iaR r d j) m1 x = upG r (iaR r d j) 65 (nI d2))) (fun (zz : (Nat × Int32)) => match zz with | (m1, x) => m1) (fun zz H locs ls hI ih151 => ?_) (65, nI d2) ⟨hP, hD, hS, lv_sub hl [1, 2, 3, 4, 5, 6, 8, 9, 0] rfl, (Or.inr ⟨d2, hd2, rfl⟩), (fun _ => hU h43 _ hia), rfl⟩
                obtain ⟨m1, x⟩ := zz
                obtain ⟨hP, hD, hS, hl, hx9, hue, hug⟩ := hI
                refine lv_iload hx hb d_Mod_moves_151 (lv_at hl 8 rfl) ?_
                refine lv_if_lt (tgt := 187) hx hb d_Mod_moves_153 (by decide) (fun h153 => ?_) (fun h153 => ?_)
                · have hnu : ¬ (rNd r (20 * (iaR r d j)) = 2 ∧ upG r (iaR r d j) 65 (nI d2) = true) := fun z => absurd ((hug.trans z.2).symm.trans (up_n h153)) (by decide)
                  refine lv_aload_n hx hb d_Mod_moves_187 rfl (lv_at hl 4 rfl) ?_
                  refine lv_iload_n hx hb d_Mod_moves_188 rfl (lv_at hl 5 rfl) ?_
                  refine lv_iload hx hb d_Mod_moves_189 (lv_at hl 3 rfl) ?_
                  refine lv_iconst (v := nI 0) hx hb d_Mod_moves_191 (by decide +kernel) ?_
                  refine lv_iconst (v := nI 0) hx hb d_Mod_moves_192 (by decide +kernel) ?_
                  refine gz_muV (As := [.int (nI d), .int (nI j), .int (nI 0), .int (nI 0)]) (rest := []) (wc := (wM g k L r)) (w1 := (wM g k L (enR r d j 0 0))) (wr := []) ⟨hx, hb, hml, hown, hTB⟩ (c_Mod_enters l D g k L hL0 hL r hrB d j 0 0 (by omega) (by omega) hX hG (by omega) (by omega) (by omega)) (cwV 4 hTB (gd_V k_782 k_784 k_39 k_56 k_785) rfl rfl rfl (by decide +kernel) ⟨Nat.le_of_ble_eq_true rfl, Nat.le_of_ble_eq_true rfl⟩) hK hP hD hA [0, 1, 2, 3, 4, 5, 6, 7, 8, 9, 10] [] rfl rfl (by decide) rfl (by decide) (by decide) 0 rfl rfl rfl hl.1 rfl (Nat.le_of_ble_eq_true rfl) d_Mod_moves_193 ⟨Nat.zero_le _, Nat.zero_le _⟩ hS (fun H locs hP hD hS => ?_)
                  have hP : va_P D cl5 (wM g k L (enR r d j 0 0)) H := hP
                  have hD : va_D A (wM g k L (enR r d j 0 0)) := hD
                  have hok2 : okR L (enR r d j 0 0) := ok_en hok (by decide) (by decide)
                  have hrB := enR_B (d := d) (e := j) (w := 0) (i := 0) hrB (by decide) (by decide)
                  refine lv_iload hx hb d_Mod_moves_196 (lv_at hl 0 rfl) ?_
                  refine lv_if_ge (tgt := 220) hx hb d_Mod_moves_198 (by decide) (fun h198 => ?_) (fun h198 => ?_)
                  · exact absurd h198 (by decide)
                  · have hok := hok2
                    have hs0 : rNd (enR r d j 0 0) (20 * d2 + 1) < 65000 := hs0
                    refine lv_aload_n hx hb d_Mod_moves_201 rfl (lv_at hl 4 rfl) ?_
                    refine lv_iload_n hx hb d_Mod_moves_202 rfl (lv_at hl 6 rfl) ?_
                    refine lv_iload hx hb d_Mod_moves_203 (lv_at hl 7 rfl) ?_
                    refine lv_iload hx hb d_Mod_moves_205 (lv_at hl 2 rfl) ?_
                    refine gz_muI (As := [.int (nI d2), .int (nI w2), .int (nI (iaR r d j))]) (rest := []) (wc := (wM g k L (enR r d j 0 0))) (w1 := (wM g k L ((adR L (enR r d j 0 0) d2 w2 (iaR r d j)).2))) (wr := []) ⟨hx, hb, hml, hown, hTB⟩ (c_Mod_adds l D g k L hL0 hL (enR r d j 0 0) hrB d2 w2 (iaR r d j) (by omega) (by omega) (by omega) (by omega) hok) (cwV 3 hTB (gd_V k_758 k_760 k_33 k_56 k_761) rfl rfl rfl (by decide +kernel) ⟨Nat.le_of_ble_eq_true rfl, Nat.le_of_ble_eq_true rfl⟩) hK hP hD hA [0, 1, 2, 3, 4, 5, 6, 7, 8, 9, 10] [] rfl rfl (by decide) rfl (by decide) (by decide) 0 rfl rfl rfl hl.1 rfl (Nat.le_of_ble_eq_true rfl) d_Mod_moves_207 ⟨Nat.zero_le _, Nat.zero_le _⟩ hS (fun H locs hP hD hS => ?_)
                    have hP : va_P D cl5 (wM g k L ((adR L (enR r d j 0 0) d2 w2 (iaR r d j)).2)) H := hP
                    have hD : va_D A (wM g k L ((adR L (enR r d j 0 0) d2 w2 (iaR r d j)).2)) := hD
                    refine gz_ifz_eq (tgt := 217) hx hb d_Mod_moves_210 (by decide) (fun h210 => ?_) (fun h210 => ?_)
                    · refine lv_bipush (v := (-4)) hx hb d_Mod_moves_217 (by decide +kernel) ?_
                      have hP9 : va_P D cl5 (wM g k L ((mvR L r d w d2 w2).2)) H := (by unfold mvR; rw [if_pos h5, if_pos h24]; unfold m1R; rw [if_pos h43, if_neg hns, ej, nI_clamp (by omega)]; unfold m2R; rw [if_neg (Int32.not_le.mpr h63), if_neg hnu]; unfold m3R; rw [if_neg (by rw [h210]; decide)]; exact hP)
                      have hD9 : va_D A (wM g k L ((mvR L r d w d2 w2).2)) := (by unfold mvR; rw [if_pos h5, if_pos h24]; unfold m1R; rw [if_pos h43, if_neg hns, ej, nI_clamp (by omega)]; unfold m2R; rw [if_neg (Int32.not_le.mpr h63), if_neg hnu]; unfold m3R; rw [if_neg (by rw [h210]; decide)]; exact hD)
                      exact W.iret (v := (-4)) hx hb hr (fun tt9 ht9 hW9 => ⟨⟨_, (), rfl, (by unfold mvR; rw [if_pos h5, if_pos h24]; unfold m1R; rw [if_pos h43, if_neg hns, ej, nI_clamp (by omega)]; unfold m2R; rw [if_neg (Int32.not_le.mpr h63), if_neg hnu]; unfold m3R; rw [if_neg (by rw [h210]; decide)]), ⟨by rw [ht9]; exact hP9, hD9⟩⟩, hS.F ht9⟩) hS.2.2 d_Mod_moves_219
                    · refine lv_iconst (v := nI 0) hx hb d_Mod_moves_213 (by decide +kernel) ?_
                      refine lv_goto (tgt := 219) hx hb d_Mod_moves_214 (by decide) ?_
                      have hP9 : va_P D cl5 (wM g k L ((mvR L r d w d2 w2).2)) H := (by unfold mvR; rw [if_pos h5, if_pos h24]; unfold m1R; rw [if_pos h43, if_neg hns, ej, nI_clamp (by omega)]; unfold m2R; rw [if_neg (Int32.not_le.mpr h63), if_neg hnu]; unfold m3R; rw [if_pos h210]; exact hP)
                      have hD9 : va_D A (wM g k L ((mvR L r d w d2 w2).2)) := (by unfold mvR; rw [if_pos h5, if_pos h24]; unfold m1R; rw [if_pos h43, if_neg hns, ej, nI_clamp (by omega)]; unfold m2R; rw [if_neg (Int32.not_le.mpr h63), if_neg hnu]; unfold m3R; rw [if_pos h210]; exact hD)
                      exact W.iret (v := nI 0) hx hb hr (fun tt9 ht9 hW9 => ⟨⟨_, (), rfl, (by unfold mvR; rw [if_pos h5, if_pos h24]; unfold m1R; rw [if_pos h43, if_neg hns, ej, nI_clamp (by omega)]; unfold m2R; rw [if_neg (Int32.not_le.mpr h63), if_neg hnu]; unfold m3R; rw [if_pos h210]), ⟨by rw [ht9]; exact hP9, hD9⟩⟩, hS.F ht9⟩) hS.2.2 d_Mod_moves_219
                · obtain ⟨z, hz, rfl⟩ := hx9.resolve_left h153
                  refine lv_aload_n hx hb d_Mod_moves_156 rfl (lv_at hl 4 rfl) ?_
                  refine lv_iload hx hb d_Mod_moves_157 (lv_at hl 2 rfl) ?_
                  refine gz_roV (As := [.int (nI (iaR r d j))]) (rest := []) (wc := (wM g k L r)) ⟨hx, hb, hml, hown, hTB⟩ (c_Mod_kind l D g k L hL0 hL r hrB (iaR r d j) (by omega)) (cwV 1 hTB (gd_V k_734 k_736 k_27 k_56 k_737) rfl rfl rfl (by decide +kernel) ⟨Nat.le_of_ble_eq_true rfl, Nat.le_of_ble_eq_true rfl⟩) hK hP [0, 1, 2, 3, 4, 5, 6, 7, 8, 9, 10] rfl 0 rfl rfl rfl hl.1 rfl (Nat.le_of_ble_eq_true rfl) d_Mod_moves_159 ⟨Nat.zero_le _, Nat.zero_le _⟩ hS (fun H locs hP hS => ?_)
                  have := (hrB (20 * (iaR r d j))).2.1
                  refine lv_iconst (v := nI 2) hx hb d_Mod_moves_162 (by decide +kernel) ?_
                  refine gz_icmp_ne (tgt := 187) hx hb d_Mod_moves_163 (by decide) (by omega) (by omega) (fun h163 => ?_) (fun h163 => ?_)
                  · have hnu : ¬ (rNd r (20 * (iaR r d j)) = 2 ∧ upG r (iaR r d j) 65 (nI d2) = true) := fun z => h163 z.1
                    refine lv_aload_n hx hb d_Mod_moves_187 rfl (lv_at hl 4 rfl) ?_
                    refine lv_iload_n hx hb d_Mod_moves_188 rfl (lv_at hl 5 rfl) ?_
                    refine lv_iload hx hb d_Mod_moves_189 (lv_at hl 3 rfl) ?_
                    refine lv_iconst (v := nI 0) hx hb d_Mod_moves_191 (by decide +kernel) ?_
                    refine lv_iconst (v := nI 0) hx hb d_Mod_moves_192 (by decide +kernel) ?_
                    refine gz_muV (As := [.int (nI d), .int (nI j), .int (nI 0), .int (nI 0)]) (rest := []) (wc := (wM g k L r)) (w1 := (wM g k L (enR r d j 0 0))) (wr := []) ⟨hx, hb, hml, hown, hTB⟩ (c_Mod_enters l D g k L hL0 hL r hrB d j 0 0 (by omega) (by omega) hX hG (by omega) (by omega) (by omega)) (cwV 4 hTB (gd_V k_782 k_784 k_39 k_56 k_785) rfl rfl rfl (by decide +kernel) ⟨Nat.le_of_ble_eq_true rfl, Nat.le_of_ble_eq_true rfl⟩) hK hP hD hA [0, 1, 2, 3, 4, 5, 6, 7, 8, 9, 10] [] rfl rfl (by decide) rfl (by decide) (by decide) 0 rfl rfl rfl hl.1 rfl (Nat.le_of_ble_eq_true rfl) d_Mod_moves_193 ⟨Nat.zero_le _, Nat.zero_le _⟩ hS (fun H locs hP hD hS => ?_)
                    have hP : va_P D cl5 (wM g k L (enR r d j 0 0)) H := hP
                    have hD : va_D A (wM g k L (enR r d j 0 0)) := hD
                    have hok2 : okR L (enR r d j 0 0) := ok_en hok (by decide) (by decide)
                    have hrB := enR_B (d := d) (e := j) (w := 0) (i := 0) hrB (by decide) (by decide)
                    refine lv_iload hx hb d_Mod_moves_196 (lv_at hl 0 rfl) ?_
                    refine lv_if_ge (tgt := 220) hx hb d_Mod_moves_198 (by decide) (fun h198 => ?_) (fun h198 => ?_)
                    · exact absurd h198 (by decide)
                    · have hok := hok2
                      have hs0 : rNd (enR r d j 0 0) (20 * d2 + 1) < 65000 := hs0
                      refine lv_aload_n hx hb d_Mod_moves_201 rfl (lv_at hl 4 rfl) ?_
                      refine lv_iload_n hx hb d_Mod_moves_202 rfl (lv_at hl 6 rfl) ?_
                      refine lv_iload hx hb d_Mod_moves_203 (lv_at hl 7 rfl) ?_
                      refine lv_iload hx hb d_Mod_moves_205 (lv_at hl 2 rfl) ?_
                      refine gz_muI (As := [.int (nI d2), .int (nI w2), .int (nI (iaR r d j))]) (rest := []) (wc := (wM g k L (enR r d j 0 0))) (w1 := (wM g k L ((adR L (enR r d j 0 0) d2 w2 (iaR r d j)).2))) (wr := []) ⟨hx, hb, hml, hown, hTB⟩ (c_Mod_adds l D g k L hL0 hL (enR r d j 0 0) hrB d2 w2 (iaR r d j) (by omega) (by omega) (by omega) (by omega) hok) (cwV 3 hTB (gd_V k_758 k_760 k_33 k_56 k_761) rfl rfl rfl (by decide +kernel) ⟨Nat.le_of_ble_eq_true rfl, Nat.le_of_ble_eq_true rfl⟩) hK hP hD hA [0, 1, 2, 3, 4, 5, 6, 7, 8, 9, 10] [] rfl rfl (by decide) rfl (by decide) (by decide) 0 rfl rfl rfl hl.1 rfl (Nat.le_of_ble_eq_true rfl) d_Mod_moves_207 ⟨Nat.zero_le _, Nat.zero_le _⟩ hS (fun H locs hP hD hS => ?_)
                      have hP : va_P D cl5 (wM g k L ((adR L (enR r d j 0 0) d2 w2 (iaR r d j)).2)) H := hP
                      have hD : va_D A (wM g k L ((adR L (enR r d j 0 0) d2 w2 (iaR r d j)).2)) := hD
                      refine gz_ifz_eq (tgt := 217) hx hb d_Mod_moves_210 (by decide) (fun h210 => ?_) (fun h210 => ?_)
                      · refine lv_bipush (v := (-4)) hx hb d_Mod_moves_217 (by decide +kernel) ?_
                        have hP9 : va_P D cl5 (wM g k L ((mvR L r d w d2 w2).2)) H := (by unfold mvR; rw [if_pos h5, if_pos h24]; unfold m1R; rw [if_pos h43, if_neg hns, ej, nI_clamp (by omega)]; unfold m2R; rw [if_neg (Int32.not_le.mpr h63), if_neg hnu]; unfold m3R; rw [if_neg (by rw [h210]; decide)]; exact hP)
                        have hD9 : va_D A (wM g k L ((mvR L r d w d2 w2).2)) := (by unfold mvR; rw [if_pos h5, if_pos h24]; unfold m1R; rw [if_pos h43, if_neg hns, ej, nI_clamp (by omega)]; unfold m2R; rw [if_neg (Int32.not_le.mpr h63), if_neg hnu]; unfold m3R; rw [if_neg (by rw [h210]; decide)]; exact hD)
                        exact W.iret (v := (-4)) hx hb hr (fun tt9 ht9 hW9 => ⟨⟨_, (), rfl, (by unfold mvR; rw [if_pos h5, if_pos h24]; unfold m1R; rw [if_pos h43, if_neg hns, ej, nI_clamp (by omega)]; unfold m2R; rw [if_neg (Int32.not_le.mpr h63), if_neg hnu]; unfold m3R; rw [if_neg (by rw [h210]; decide)]), ⟨by rw [ht9]; exact hP9, hD9⟩⟩, hS.F ht9⟩) hS.2.2 d_Mod_moves_219
                      · refine lv_iconst (v := nI 0) hx hb d_Mod_moves_213 (by decide +kernel) ?_
                        refine lv_goto (tgt := 219) hx hb d_Mod_moves_214 (by decide) ?_
                        have hP9 : va_P D cl5 (wM g k L ((mvR L r d w d2 w2).2)) H := (by unfold mvR; rw [if_pos h5, if_pos h24]; unfold m1R; rw [if_pos h43, if_neg hns, ej, nI_clamp (by omega)]; unfold m2R; rw [if_neg (Int32.not_le.mpr h63), if_neg hnu]; unfold m3R; rw [if_pos h210]; exact hP)
                        have hD9 : va_D A (wM g k L ((mvR L r d w d2 w2).2)) := (by unfold mvR; rw [if_pos h5, if_pos h24]; unfold m1R; rw [if_pos h43, if_neg hns, ej, nI_clamp (by omega)]; unfold m2R; rw [if_neg (Int32.not_le.mpr h63), if_neg hnu]; unfold m3R; rw [if_pos h210]; exact hD)
                        exact W.iret (v := nI 0) hx hb hr (fun tt9 ht9 hW9 => ⟨⟨_, (), rfl, (by unfold mvR; rw [if_pos h5, if_pos h24]; unfold m1R; rw [if_pos h43, if_neg hns, ej, nI_clamp (by omega)]; unfold m2R; rw [if_neg (Int32.not_le.mpr h63), if_neg hnu]; unfold m3R; rw [if_pos h210]), ⟨by rw [ht9]; exact hP9, hD9⟩⟩, hS.F ht9⟩) hS.2.2 d_Mod_moves_219
                  · refine lv_iload hx hb d_Mod_moves_166 (lv_at hl 8 rfl) ?_
                    refine lv_iload hx hb d_Mod_moves_168 (lv_at hl 2 rfl) ?_
                    refine gz_icmp_ne (tgt := 176) hx hb d_Mod_moves_170 (by decide) (by omega) (by omega) (fun h170 => ?_) (fun h170 => ?_)
                    · refine lv_aload_n hx hb d_Mod_moves_176 rfl (lv_at hl 4 rfl) ?_
                      refine lv_iload hx hb d_Mod_moves_177 (lv_at hl 8 rfl) ?_
                      refine gz_roV (As := [.int (nI z)]) (rest := []) (wc := (wM g k L r)) ⟨hx, hb, hml, hown, hTB⟩ (c_Mod_parentOf l D g k L hL0 hL r hrB z (by omega) hok) (cwV 1 hTB (gd_V k_810 k_812 k_46 k_56 k_813) rfl rfl rfl (by decide +kernel) ⟨Nat.le_of_ble_eq_true rfl, Nat.le_of_ble_eq_true rfl⟩) hK hP [0, 1, 2, 3, 4, 5, 6, 7, 8, 9, 10] rfl 0 rfl rfl rfl hl.1 rfl (Nat.le_of_ble_eq_true rfl) d_Mod_moves_179 ⟨Nat.zero_le _, Nat.zero_le _⟩ hS (fun H locs hP hS => ?_)
                      refine lv_istore (lv' := [(9, .int (paR r z)), (8, .int ((-1))), (7, .int (eoR r d2 w2)), (6, .int (nI (iaR r d j))), (5, .int (nI j)), (0, .ref (g 20)), (1, .int (nI d)), (3, .int (nI d2)), (4, .int (nI w2))]) hx hb d_Mod_moves_182 hl (by decide) rfl (fun ls hl => ?_)
                      refine lv_goto (tgt := 151) hx hb d_Mod_moves_184 (by decide) ?_
                      have hs9 := up_s hz hia h170 (hue (nI_pos' (by omega)))
                      exact ih151 (m1 - 1, paR r z) _ _ _ (by have := hs9.1; first | omega | (dsimp only; omega)) ⟨hP, hD, hS, lv_sub hl [1, 2, 3, 4, 5, 6, 7, 8, 0] rfl, (by rcases Int32.lt_or_le (paR r z) 0 with q | q; exact Or.inl q; exact Or.inr (paR_of (Int32.not_lt.mpr q))), (fun _ => hs9.2.1), (by rw [← hug]; exact hs9.2.2)⟩
                    · have hyu : upG r (iaR r d j) 65 (nI d2) = true := by rw [← hug]; subst h170; exact up_y hia (hue (nI_pos' (by omega)))
                      refine lv_bipush (v := (-7)) hx hb d_Mod_moves_173 (by decide +kernel) ?_
                      have hP9 : va_P D cl5 (wM g k L ((mvR L r d w d2 w2).2)) H := (by unfold mvR; rw [if_pos h5, if_pos h24]; unfold m1R; rw [if_pos h43, if_neg hns, ej, nI_clamp (by omega)]; unfold m2R; rw [if_neg (Int32.not_le.mpr h63), if_pos ⟨h163, hyu⟩]; exact hP)
                      have hD9 : va_D A (wM g k L ((mvR L r d w d2 w2).2)) := (by unfold mvR; rw [if_pos h5, if_pos h24]; unfold m1R; rw [if_pos h43, if_neg hns, ej, nI_clamp (by omega)]; unfold m2R; rw [if_neg (Int32.not_le.mpr h63), if_pos ⟨h163, hyu⟩]; exact hD)
                      exact W.iret (v := (-7)) hx hb hr (fun tt9 ht9 hW9 => ⟨⟨_, (), rfl, (by unfold mvR; rw [if_pos h5, if_pos h24]; unfold m1R; rw [if_pos h43, if_neg hns, ej, nI_clamp (by omega)]; unfold m2R; rw [if_neg (Int32.not_le.mpr h63), if_pos ⟨h163, hyu⟩]), ⟨by rw [ht9]; exact hP9, hD9⟩⟩, hS.F ht9⟩) hS.2.2 d_Mod_moves_175
              · exact absurd (by decide) h123
            · exact absurd (by decide) h100
        · have h63x := Int32.not_lt.mp h63
          obtain ⟨t, ht, et, hnm⟩ := eoR_of h63x
          have hl : lv_has ls 10 [(7, .int (nI t)), (6, .int (nI (iaR r d j))), (5, .int (nI j)), (0, .ref (g 20)), (1, .int (nI d)), (2, .int (nI w)), (3, .int (nI d2)), (4, .int (nI w2))] := by rw [← et]; exact hl
          have hsd2 := hS0 d2 hd2
          have hsb2 := (hrB (20 * d2 + 1)).2.1
          have hia2 := hE2 h43 t ht
          have hid2 := hN2 h43 t ht hnm
          refine lv_iload_n hx hb d_Mod_moves_66 rfl (lv_at hl 6 rfl) ?_
          refine lv_iload_n hx hb d_Mod_moves_67 rfl (lv_at hl 4 rfl) ?_
          refine gz_icmp_ne (tgt := 80) hx hb d_Mod_moves_68 (by decide) (by omega) (by omega) (fun h68 => ?_) (fun h68 => ?_)
          · have hns : ¬ (0 ≤ eoR r d2 w2 ∧ d2 = d ∧ eoR r d2 w2 = eoR r d w) := fun z => h68 z.2.1
            refine lv_iload hx hb d_Mod_moves_80 (lv_at hl 0 rfl) ?_
            refine gz_if_ge (tgt := 89) hx hb d_Mod_moves_82 (by decide) (by omega) ?_
            refine lv_aload_n hx hb d_Mod_moves_89 rfl (lv_at hl 3 rfl) ?_
            refine lv_iload_n hx hb d_Mod_moves_90 rfl (lv_at hl 6 rfl) ?_
            refine lv_iload hx hb d_Mod_moves_91 (lv_at hl 0 rfl) ?_
            refine gz_roV (As := [.int (nI d2), .int (nI t)]) (rest := []) (wc := (wM g k L r)) ⟨hx, hb, hml, hown, hTB⟩ (c_Mod_inodeAt l D g k L hL0 hL r hrB d2 t (by omega) (by omega) hX hG (by omega)) (cwV 2 hTB (gd_V k_802 k_804 k_44 k_56 k_805) rfl rfl rfl (by decide +kernel) ⟨Nat.le_of_ble_eq_true rfl, Nat.le_of_ble_eq_true rfl⟩) hK hP [0, 1, 2, 3, 4, 5, 6, 7, 8, 9, 10] rfl 0 rfl rfl rfl hl.1 rfl (Nat.le_of_ble_eq_true rfl) d_Mod_moves_93 ⟨Nat.zero_le _, Nat.zero_le _⟩ hS (fun H locs hP hS => ?_)
            have : iaR r d2 t < 65536 := (hrB _).2.2.2.1
            refine lv_istore (lv' := [(8, .int (nI (iaR r d2 t))), (7, .int (nI t)), (6, .int (nI (iaR r d j))), (5, .int (nI j)), (0, .ref (g 20)), (1, .int (nI d)), (2, .int (nI w)), (3, .int (nI d2)), (4, .int (nI w2))]) hx hb d_Mod_moves_96 hl (by decide) rfl (fun ls hl => ?_)
            refine lv_iload hx hb d_Mod_moves_98 (lv_at hl 0 rfl) ?_
            refine gz_if_lt (tgt := 121) hx hb d_Mod_moves_100 (by decide) (by omega) ?_
            refine lv_aload_n hx hb d_Mod_moves_103 rfl (lv_at hl 4 rfl) ?_
            refine lv_iload hx hb d_Mod_moves_104 (lv_at hl 2 rfl) ?_
            refine gz_roV (As := [.int (nI (iaR r d j))]) (rest := []) (wc := (wM g k L r)) ⟨hx, hb, hml, hown, hTB⟩ (c_Mod_kind l D g k L hL0 hL r hrB (iaR r d j) (by omega)) (cwV 1 hTB (gd_V k_734 k_736 k_27 k_56 k_737) rfl rfl rfl (by decide +kernel) ⟨Nat.le_of_ble_eq_true rfl, Nat.le_of_ble_eq_true rfl⟩) hK hP [0, 1, 2, 3, 4, 5, 6, 7, 8, 9, 10] rfl 0 rfl rfl rfl hl.1 rfl (Nat.le_of_ble_eq_true rfl) d_Mod_moves_106 ⟨Nat.zero_le _, Nat.zero_le _⟩ hS (fun H locs hP hS => ?_)
            have := (hrB (20 * (iaR r d j))).2.1
            refine lv_aload_n hx hb d_Mod_moves_109 rfl (lv_at hl 4 rfl) ?_
            refine lv_iload hx hb d_Mod_moves_110 (lv_at hl 0 rfl) ?_
            refine gz_roV (As := [.int (nI (iaR r d2 t))]) (rest := [.int (nI (rNd r (20 * (iaR r d j))))]) (wc := (wM g k L r)) ⟨hx, hb, hml, hown, hTB⟩ (c_Mod_kind l D g k L hL0 hL r hrB (iaR r d2 t) (by omega)) (cwV 1 hTB (gd_V k_734 k_736 k_27 k_56 k_737) rfl rfl rfl (by decide +kernel) ⟨Nat.le_of_ble_eq_true rfl, Nat.le_of_ble_eq_true rfl⟩) hK hP [0, 1, 2, 3, 4, 5, 6, 7, 8, 9, 10] rfl 0 rfl rfl rfl hl.1 rfl (Nat.le_of_ble_eq_true rfl) d_Mod_moves_112 ⟨Nat.zero_le _, Nat.zero_le _⟩ hS (fun H locs hP hS => ?_)
            have := (hrB (20 * (iaR r d2 t))).2.1
            refine gz_icmp_eq (tgt := 121) hx hb d_Mod_moves_115 (by decide) (by omega) (by omega) (fun h115 => ?_) (fun h115 => ?_)
            · refine lv_iload hx hb d_Mod_moves_121 (lv_at hl 0 rfl) ?_
              refine gz_if_lt (tgt := 148) hx hb d_Mod_moves_123 (by decide) (by omega) ?_
              refine lv_aload_n hx hb d_Mod_moves_126 rfl (lv_at hl 4 rfl) ?_
              refine lv_iload hx hb d_Mod_moves_127 (lv_at hl 0 rfl) ?_
              refine gz_roV (As := [.int (nI (iaR r d2 t))]) (rest := []) (wc := (wM g k L r)) ⟨hx, hb, hml, hown, hTB⟩ (c_Mod_kind l D g k L hL0 hL r hrB (iaR r d2 t) (by omega)) (cwV 1 hTB (gd_V k_734 k_736 k_27 k_56 k_737) rfl rfl rfl (by decide +kernel) ⟨Nat.le_of_ble_eq_true rfl, Nat.le_of_ble_eq_true rfl⟩) hK hP [0, 1, 2, 3, 4, 5, 6, 7, 8, 9, 10] rfl 0 rfl rfl rfl hl.1 rfl (Nat.le_of_ble_eq_true rfl) d_Mod_moves_129 ⟨Nat.zero_le _, Nat.zero_le _⟩ hS (fun H locs hP hS => ?_)
              have := (hrB (20 * (iaR r d2 t))).2.1
              refine lv_iconst (v := nI 2) hx hb d_Mod_moves_132 (by decide +kernel) ?_
              refine gz_icmp_ne (tgt := 148) hx hb d_Mod_moves_133 (by decide) (by omega) (by omega) (fun h133 => ?_) (fun h133 => ?_)
              · have hn6 : ¬ (rNd r (20 * iaR r d2 t) = 2 ∧ ieR r (iaR r d2 t) = false) := fun z => h133 z.1
                refine lv_iload_n hx hb d_Mod_moves_148 rfl (lv_at hl 7 rfl) ?_
                refine lv_istore (lv' := [(9, .int (nI d2)), (8, .int (nI (iaR r d2 t))), (7, .int (nI t)), (6, .int (nI (iaR r d j))), (5, .int (nI j)), (0, .ref (g 20)), (1, .int (nI d)), (2, .int (nI w)), (3, .int (nI d2)), (4, .int (nI w2))]) hx hb d_Mod_moves_149 hl (by decide) rfl (fun ls hl => ?_)
                refine gz_loop 151 (fun (zz : (Nat × Int32)) H locs ls => match zz with | (m1, x) => va_P D cl5 (wM g k L r) H ∧ va_D A (wM g k L r) ∧ va_S A s.heap H locs ∧ lv_has ls 10 [(8, .int (nI (iaR r d2 t))), (7, .int (nI t)), (6, .int (nI (iaR r d j))), (5, .int (nI j)), (0, .ref (g 20)), (1, .int (nI d)), (3, .int (nI d2)), (4, .int (nI w2)), (9, .int (x))] ∧ (x < 0 ∨ ∃ z, z < 64 ∧ x = nI z) ∧ (0 ≤ x → upE r (iaR r d j) m1 x = true) ∧ (upG r (iaR r d j) m1 x = upG r (iaR r d j) 65 (nI d2))) (fun (zz : (Nat × Int32)) => match zz with | (m1, x) => m1) (fun zz H locs ls hI ih151 => ?_) (65, nI d2) ⟨hP, hD, hS, lv_sub hl [1, 2, 3, 4, 5, 6, 8, 9, 0] rfl, (Or.inr ⟨d2, hd2, rfl⟩), (fun _ => hU h43 _ hia), rfl⟩
                obtain ⟨m1, x⟩ := zz
                obtain ⟨hP, hD, hS, hl, hx9, hue, hug⟩ := hI
                refine lv_iload hx hb d_Mod_moves_151 (lv_at hl 8 rfl) ?_
                refine lv_if_lt (tgt := 187) hx hb d_Mod_moves_153 (by decide) (fun h153 => ?_) (fun h153 => ?_)
                · have hnu : ¬ (rNd r (20 * (iaR r d j)) = 2 ∧ upG r (iaR r d j) 65 (nI d2) = true) := fun z => absurd ((hug.trans z.2).symm.trans (up_n h153)) (by decide)
                  refine lv_aload_n hx hb d_Mod_moves_187 rfl (lv_at hl 4 rfl) ?_
                  refine lv_iload_n hx hb d_Mod_moves_188 rfl (lv_at hl 5 rfl) ?_
                  refine lv_iload hx hb d_Mod_moves_189 (lv_at hl 3 rfl) ?_
                  refine lv_iconst (v := nI 0) hx hb d_Mod_moves_191 (by decide +kernel) ?_
                  refine lv_iconst (v := nI 0) hx hb d_Mod_moves_192 (by decide +kernel) ?_
                  refine gz_muV (As := [.int (nI d), .int (nI j), .int (nI 0), .int (nI 0)]) (rest := []) (wc := (wM g k L r)) (w1 := (wM g k L (enR r d j 0 0))) (wr := []) ⟨hx, hb, hml, hown, hTB⟩ (c_Mod_enters l D g k L hL0 hL r hrB d j 0 0 (by omega) (by omega) hX hG (by omega) (by omega) (by omega)) (cwV 4 hTB (gd_V k_782 k_784 k_39 k_56 k_785) rfl rfl rfl (by decide +kernel) ⟨Nat.le_of_ble_eq_true rfl, Nat.le_of_ble_eq_true rfl⟩) hK hP hD hA [0, 1, 2, 3, 4, 5, 6, 7, 8, 9, 10] [] rfl rfl (by decide) rfl (by decide) (by decide) 0 rfl rfl rfl hl.1 rfl (Nat.le_of_ble_eq_true rfl) d_Mod_moves_193 ⟨Nat.zero_le _, Nat.zero_le _⟩ hS (fun H locs hP hD hS => ?_)
                  have hP : va_P D cl5 (wM g k L (enR r d j 0 0)) H := hP
                  have hD : va_D A (wM g k L (enR r d j 0 0)) := hD
                  have hok2 : okR L (enR r d j 0 0) := ok_en hok (by decide) (by decide)
                  have hrB := enR_B (d := d) (e := j) (w := 0) (i := 0) hrB (by decide) (by decide)
                  refine lv_iload hx hb d_Mod_moves_196 (lv_at hl 0 rfl) ?_
                  refine gz_if_ge (tgt := 220) hx hb d_Mod_moves_198 (by decide) (by omega) ?_
                  have hwf := hok2.1
                  refine lv_aload_n hx hb d_Mod_moves_220 rfl (lv_at hl 4 rfl) ?_
                  refine lv_iload hx hb d_Mod_moves_221 (lv_at hl 0 rfl) ?_
                  refine gz_muV (As := [.int (nI (iaR r d2 t))]) (rest := []) (wc := (wM g k L (enR r d j 0 0))) (w1 := (wM g k L (frR (enR r d j 0 0) (iaR r d2 t)))) (wr := []) ⟨hx, hb, hml, hown, hTB⟩ (c_Mod_frees l D g k L hL0 hL (enR r d j 0 0) hrB (iaR r d2 t) (by omega) hwf) (cwV 1 hTB (gd_V k_814 k_816 k_47 k_56 k_817) rfl rfl rfl (by decide +kernel) ⟨Nat.le_of_ble_eq_true rfl, Nat.le_of_ble_eq_true rfl⟩) hK hP hD hA [0, 1, 2, 3, 4, 5, 6, 7, 8, 9, 10] [] rfl rfl (by decide) rfl (by decide) (by decide) 0 rfl rfl rfl hl.1 rfl (Nat.le_of_ble_eq_true rfl) d_Mod_moves_223 ⟨Nat.zero_le _, Nat.zero_le _⟩ hS (fun H locs hP hD hS => ?_)
                  have hP : va_P D cl5 (wM g k L (frR (enR r d j 0 0) (iaR r d2 t))) H := hP
                  have hD : va_D A (wM g k L (frR (enR r d j 0 0) (iaR r d2 t))) := hD
                  have hbf : bsR (rNd (frR (enR r d j 0 0) (iaR r d2 t))) d2 = bsR (rNd r) d2 := fr_bs hia2 hd2 (fun z => hid2 z.symm) hok2.1 hrB
                  have hwf2 := (fr_wf hia2 hok2.1 hrB).1
                  have hrB := (fr_wf hia2 hok2.1 hrB).2
                  have hX := wf_X hwf2
                  have hG := wf_G hwf2 hL
                  refine lv_aload_n hx hb d_Mod_moves_226 rfl (lv_at hl 4 rfl) ?_
                  refine lv_iload_n hx hb d_Mod_moves_227 rfl (lv_at hl 6 rfl) ?_
                  refine lv_iload hx hb d_Mod_moves_228 (lv_at hl 1 rfl) ?_
                  refine lv_iload hx hb d_Mod_moves_230 (lv_at hl 7 rfl) ?_
                  refine lv_iload hx hb d_Mod_moves_232 (lv_at hl 2 rfl) ?_
                  refine gz_muV (As := [.int (nI d2), .int (nI t), .int (nI w2), .int (nI (iaR r d j))]) (rest := []) (wc := (wM g k L (frR (enR r d j 0 0) (iaR r d2 t)))) (w1 := (wM g k L (enR (frR (enR r d j 0 0) (iaR r d2 t)) d2 t w2 (iaR r d j)))) (wr := []) ⟨hx, hb, hml, hown, hTB⟩ (c_Mod_enters l D g k L hL0 hL (frR (enR r d j 0 0) (iaR r d2 t)) hrB d2 t w2 (iaR r d j) (by omega) (by omega) hX hG (by omega) (by omega) (by omega)) (cwV 4 hTB (gd_V k_782 k_784 k_39 k_56 k_785) rfl rfl rfl (by decide +kernel) ⟨Nat.le_of_ble_eq_true rfl, Nat.le_of_ble_eq_true rfl⟩) hK hP hD hA [0, 1, 2, 3, 4, 5, 6, 7, 8, 9, 10] [] rfl rfl (by decide) rfl (by decide) (by decide) 0 rfl rfl rfl hl.1 rfl (Nat.le_of_ble_eq_true rfl) d_Mod_moves_234 ⟨Nat.zero_le _, Nat.zero_le _⟩ hS (fun H locs hP hD hS => ?_)
                  have hP : va_P D cl5 (wM g k L (enR (frR (enR r d j 0 0) (iaR r d2 t)) d2 t w2 (iaR r d j))) H := hP
                  have hD : va_D A (wM g k L (enR (frR (enR r d j 0 0) (iaR r d2 t)) d2 t w2 (iaR r d j))) := hD
                  refine lv_iconst (v := nI 0) hx hb d_Mod_moves_237 (by decide +kernel) ?_
                  have hP9 : va_P D cl5 (wM g k L ((mvR L r d w d2 w2).2)) H := (by unfold mvR; rw [if_pos h5, if_pos h24]; unfold m1R; rw [if_pos h43, if_neg hns, ej, nI_clamp (by omega)]; unfold m2R; rw [if_pos h63x, et, nI_clamp (by omega), if_pos h115, if_neg hn6, if_neg hnu]; exact hP)
                  have hD9 : va_D A (wM g k L ((mvR L r d w d2 w2).2)) := (by unfold mvR; rw [if_pos h5, if_pos h24]; unfold m1R; rw [if_pos h43, if_neg hns, ej, nI_clamp (by omega)]; unfold m2R; rw [if_pos h63x, et, nI_clamp (by omega), if_pos h115, if_neg hn6, if_neg hnu]; exact hD)
                  exact W.iret (v := nI 0) hx hb hr (fun tt9 ht9 hW9 => ⟨⟨_, (), rfl, (by unfold mvR; rw [if_pos h5, if_pos h24]; unfold m1R; rw [if_pos h43, if_neg hns, ej, nI_clamp (by omega)]; unfold m2R; rw [if_pos h63x, et, nI_clamp (by omega), if_pos h115, if_neg hn6, if_neg hnu]), ⟨by rw [ht9]; exact hP9, hD9⟩⟩, hS.F ht9⟩) hS.2.2 d_Mod_moves_238
                · obtain ⟨z, hz, rfl⟩ := hx9.resolve_left h153
                  refine lv_aload_n hx hb d_Mod_moves_156 rfl (lv_at hl 4 rfl) ?_
                  refine lv_iload hx hb d_Mod_moves_157 (lv_at hl 2 rfl) ?_
                  refine gz_roV (As := [.int (nI (iaR r d j))]) (rest := []) (wc := (wM g k L r)) ⟨hx, hb, hml, hown, hTB⟩ (c_Mod_kind l D g k L hL0 hL r hrB (iaR r d j) (by omega)) (cwV 1 hTB (gd_V k_734 k_736 k_27 k_56 k_737) rfl rfl rfl (by decide +kernel) ⟨Nat.le_of_ble_eq_true rfl, Nat.le_of_ble_eq_true rfl⟩) hK hP [0, 1, 2, 3, 4, 5, 6, 7, 8, 9, 10] rfl 0 rfl rfl rfl hl.1 rfl (Nat.le_of_ble_eq_true rfl) d_Mod_moves_159 ⟨Nat.zero_le _, Nat.zero_le _⟩ hS (fun H locs hP hS => ?_)
                  have := (hrB (20 * (iaR r d j))).2.1
                  refine lv_iconst (v := nI 2) hx hb d_Mod_moves_162 (by decide +kernel) ?_
                  refine gz_icmp_ne (tgt := 187) hx hb d_Mod_moves_163 (by decide) (by omega) (by omega) (fun h163 => ?_) (fun h163 => ?_)
                  · have hnu : ¬ (rNd r (20 * (iaR r d j)) = 2 ∧ upG r (iaR r d j) 65 (nI d2) = true) := fun z => h163 z.1
                    refine lv_aload_n hx hb d_Mod_moves_187 rfl (lv_at hl 4 rfl) ?_
                    refine lv_iload_n hx hb d_Mod_moves_188 rfl (lv_at hl 5 rfl) ?_
                    refine lv_iload hx hb d_Mod_moves_189 (lv_at hl 3 rfl) ?_
                    refine lv_iconst (v := nI 0) hx hb d_Mod_moves_191 (by decide +kernel) ?_
                    refine lv_iconst (v := nI 0) hx hb d_Mod_moves_192 (by decide +kernel) ?_
                    refine gz_muV (As := [.int (nI d), .int (nI j), .int (nI 0), .int (nI 0)]) (rest := []) (wc := (wM g k L r)) (w1 := (wM g k L (enR r d j 0 0))) (wr := []) ⟨hx, hb, hml, hown, hTB⟩ (c_Mod_enters l D g k L hL0 hL r hrB d j 0 0 (by omega) (by omega) hX hG (by omega) (by omega) (by omega)) (cwV 4 hTB (gd_V k_782 k_784 k_39 k_56 k_785) rfl rfl rfl (by decide +kernel) ⟨Nat.le_of_ble_eq_true rfl, Nat.le_of_ble_eq_true rfl⟩) hK hP hD hA [0, 1, 2, 3, 4, 5, 6, 7, 8, 9, 10] [] rfl rfl (by decide) rfl (by decide) (by decide) 0 rfl rfl rfl hl.1 rfl (Nat.le_of_ble_eq_true rfl) d_Mod_moves_193 ⟨Nat.zero_le _, Nat.zero_le _⟩ hS (fun H locs hP hD hS => ?_)
                    have hP : va_P D cl5 (wM g k L (enR r d j 0 0)) H := hP
                    have hD : va_D A (wM g k L (enR r d j 0 0)) := hD
                    have hok2 : okR L (enR r d j 0 0) := ok_en hok (by decide) (by decide)
                    have hrB := enR_B (d := d) (e := j) (w := 0) (i := 0) hrB (by decide) (by decide)
                    refine lv_iload hx hb d_Mod_moves_196 (lv_at hl 0 rfl) ?_
                    refine gz_if_ge (tgt := 220) hx hb d_Mod_moves_198 (by decide) (by omega) ?_
                    have hwf := hok2.1
                    refine lv_aload_n hx hb d_Mod_moves_220 rfl (lv_at hl 4 rfl) ?_
                    refine lv_iload hx hb d_Mod_moves_221 (lv_at hl 0 rfl) ?_
                    refine gz_muV (As := [.int (nI (iaR r d2 t))]) (rest := []) (wc := (wM g k L (enR r d j 0 0))) (w1 := (wM g k L (frR (enR r d j 0 0) (iaR r d2 t)))) (wr := []) ⟨hx, hb, hml, hown, hTB⟩ (c_Mod_frees l D g k L hL0 hL (enR r d j 0 0) hrB (iaR r d2 t) (by omega) hwf) (cwV 1 hTB (gd_V k_814 k_816 k_47 k_56 k_817) rfl rfl rfl (by decide +kernel) ⟨Nat.le_of_ble_eq_true rfl, Nat.le_of_ble_eq_true rfl⟩) hK hP hD hA [0, 1, 2, 3, 4, 5, 6, 7, 8, 9, 10] [] rfl rfl (by decide) rfl (by decide) (by decide) 0 rfl rfl rfl hl.1 rfl (Nat.le_of_ble_eq_true rfl) d_Mod_moves_223 ⟨Nat.zero_le _, Nat.zero_le _⟩ hS (fun H locs hP hD hS => ?_)
                    have hP : va_P D cl5 (wM g k L (frR (enR r d j 0 0) (iaR r d2 t))) H := hP
                    have hD : va_D A (wM g k L (frR (enR r d j 0 0) (iaR r d2 t))) := hD
                    have hbf : bsR (rNd (frR (enR r d j 0 0) (iaR r d2 t))) d2 = bsR (rNd r) d2 := fr_bs hia2 hd2 (fun z => hid2 z.symm) hok2.1 hrB
                    have hwf2 := (fr_wf hia2 hok2.1 hrB).1
                    have hrB := (fr_wf hia2 hok2.1 hrB).2
                    have hX := wf_X hwf2
                    have hG := wf_G hwf2 hL
                    refine lv_aload_n hx hb d_Mod_moves_226 rfl (lv_at hl 4 rfl) ?_
                    refine lv_iload_n hx hb d_Mod_moves_227 rfl (lv_at hl 6 rfl) ?_
                    refine lv_iload hx hb d_Mod_moves_228 (lv_at hl 1 rfl) ?_
                    refine lv_iload hx hb d_Mod_moves_230 (lv_at hl 7 rfl) ?_
                    refine lv_iload hx hb d_Mod_moves_232 (lv_at hl 2 rfl) ?_
                    refine gz_muV (As := [.int (nI d2), .int (nI t), .int (nI w2), .int (nI (iaR r d j))]) (rest := []) (wc := (wM g k L (frR (enR r d j 0 0) (iaR r d2 t)))) (w1 := (wM g k L (enR (frR (enR r d j 0 0) (iaR r d2 t)) d2 t w2 (iaR r d j)))) (wr := []) ⟨hx, hb, hml, hown, hTB⟩ (c_Mod_enters l D g k L hL0 hL (frR (enR r d j 0 0) (iaR r d2 t)) hrB d2 t w2 (iaR r d j) (by omega) (by omega) hX hG (by omega) (by omega) (by omega)) (cwV 4 hTB (gd_V k_782 k_784 k_39 k_56 k_785) rfl rfl rfl (by decide +kernel) ⟨Nat.le_of_ble_eq_true rfl, Nat.le_of_ble_eq_true rfl⟩) hK hP hD hA [0, 1, 2, 3, 4, 5, 6, 7, 8, 9, 10] [] rfl rfl (by decide) rfl (by decide) (by decide) 0 rfl rfl rfl hl.1 rfl (Nat.le_of_ble_eq_true rfl) d_Mod_moves_234 ⟨Nat.zero_le _, Nat.zero_le _⟩ hS (fun H locs hP hD hS => ?_)
                    have hP : va_P D cl5 (wM g k L (enR (frR (enR r d j 0 0) (iaR r d2 t)) d2 t w2 (iaR r d j))) H := hP
                    have hD : va_D A (wM g k L (enR (frR (enR r d j 0 0) (iaR r d2 t)) d2 t w2 (iaR r d j))) := hD
                    refine lv_iconst (v := nI 0) hx hb d_Mod_moves_237 (by decide +kernel) ?_
                    have hP9 : va_P D cl5 (wM g k L ((mvR L r d w d2 w2).2)) H := (by unfold mvR; rw [if_pos h5, if_pos h24]; unfold m1R; rw [if_pos h43, if_neg hns, ej, nI_clamp (by omega)]; unfold m2R; rw [if_pos h63x, et, nI_clamp (by omega), if_pos h115, if_neg hn6, if_neg hnu]; exact hP)
                    have hD9 : va_D A (wM g k L ((mvR L r d w d2 w2).2)) := (by unfold mvR; rw [if_pos h5, if_pos h24]; unfold m1R; rw [if_pos h43, if_neg hns, ej, nI_clamp (by omega)]; unfold m2R; rw [if_pos h63x, et, nI_clamp (by omega), if_pos h115, if_neg hn6, if_neg hnu]; exact hD)
                    exact W.iret (v := nI 0) hx hb hr (fun tt9 ht9 hW9 => ⟨⟨_, (), rfl, (by unfold mvR; rw [if_pos h5, if_pos h24]; unfold m1R; rw [if_pos h43, if_neg hns, ej, nI_clamp (by omega)]; unfold m2R; rw [if_pos h63x, et, nI_clamp (by omega), if_pos h115, if_neg hn6, if_neg hnu]), ⟨by rw [ht9]; exact hP9, hD9⟩⟩, hS.F ht9⟩) hS.2.2 d_Mod_moves_238
                  · refine lv_iload hx hb d_Mod_moves_166 (lv_at hl 8 rfl) ?_
                    refine lv_iload hx hb d_Mod_moves_168 (lv_at hl 2 rfl) ?_
                    refine gz_icmp_ne (tgt := 176) hx hb d_Mod_moves_170 (by decide) (by omega) (by omega) (fun h170 => ?_) (fun h170 => ?_)
                    · refine lv_aload_n hx hb d_Mod_moves_176 rfl (lv_at hl 4 rfl) ?_
                      refine lv_iload hx hb d_Mod_moves_177 (lv_at hl 8 rfl) ?_
                      refine gz_roV (As := [.int (nI z)]) (rest := []) (wc := (wM g k L r)) ⟨hx, hb, hml, hown, hTB⟩ (c_Mod_parentOf l D g k L hL0 hL r hrB z (by omega) hok) (cwV 1 hTB (gd_V k_810 k_812 k_46 k_56 k_813) rfl rfl rfl (by decide +kernel) ⟨Nat.le_of_ble_eq_true rfl, Nat.le_of_ble_eq_true rfl⟩) hK hP [0, 1, 2, 3, 4, 5, 6, 7, 8, 9, 10] rfl 0 rfl rfl rfl hl.1 rfl (Nat.le_of_ble_eq_true rfl) d_Mod_moves_179 ⟨Nat.zero_le _, Nat.zero_le _⟩ hS (fun H locs hP hS => ?_)
                      refine lv_istore (lv' := [(9, .int (paR r z)), (8, .int (nI (iaR r d2 t))), (7, .int (nI t)), (6, .int (nI (iaR r d j))), (5, .int (nI j)), (0, .ref (g 20)), (1, .int (nI d)), (3, .int (nI d2)), (4, .int (nI w2))]) hx hb d_Mod_moves_182 hl (by decide) rfl (fun ls hl => ?_)
                      refine lv_goto (tgt := 151) hx hb d_Mod_moves_184 (by decide) ?_
                      have hs9 := up_s hz hia h170 (hue (nI_pos' (by omega)))
                      exact ih151 (m1 - 1, paR r z) _ _ _ (by have := hs9.1; first | omega | (dsimp only; omega)) ⟨hP, hD, hS, lv_sub hl [1, 2, 3, 4, 5, 6, 7, 8, 0] rfl, (by rcases Int32.lt_or_le (paR r z) 0 with q | q; exact Or.inl q; exact Or.inr (paR_of (Int32.not_lt.mpr q))), (fun _ => hs9.2.1), (by rw [← hug]; exact hs9.2.2)⟩
                    · have hyu : upG r (iaR r d j) 65 (nI d2) = true := by rw [← hug]; subst h170; exact up_y hia (hue (nI_pos' (by omega)))
                      refine lv_bipush (v := (-7)) hx hb d_Mod_moves_173 (by decide +kernel) ?_
                      have hP9 : va_P D cl5 (wM g k L ((mvR L r d w d2 w2).2)) H := (by unfold mvR; rw [if_pos h5, if_pos h24]; unfold m1R; rw [if_pos h43, if_neg hns, ej, nI_clamp (by omega)]; unfold m2R; rw [if_pos h63x, et, nI_clamp (by omega), if_pos h115, if_neg hn6, if_pos ⟨h163, hyu⟩]; exact hP)
                      have hD9 : va_D A (wM g k L ((mvR L r d w d2 w2).2)) := (by unfold mvR; rw [if_pos h5, if_pos h24]; unfold m1R; rw [if_pos h43, if_neg hns, ej, nI_clamp (by omega)]; unfold m2R; rw [if_pos h63x, et, nI_clamp (by omega), if_pos h115, if_neg hn6, if_pos ⟨h163, hyu⟩]; exact hD)
                      exact W.iret (v := (-7)) hx hb hr (fun tt9 ht9 hW9 => ⟨⟨_, (), rfl, (by unfold mvR; rw [if_pos h5, if_pos h24]; unfold m1R; rw [if_pos h43, if_neg hns, ej, nI_clamp (by omega)]; unfold m2R; rw [if_pos h63x, et, nI_clamp (by omega), if_pos h115, if_neg hn6, if_pos ⟨h163, hyu⟩]), ⟨by rw [ht9]; exact hP9, hD9⟩⟩, hS.F ht9⟩) hS.2.2 d_Mod_moves_175
              · refine lv_aload_n hx hb d_Mod_moves_136 rfl (lv_at hl 4 rfl) ?_
                refine lv_iload hx hb d_Mod_moves_137 (lv_at hl 0 rfl) ?_
                refine gz_roV (As := [.int (nI (iaR r d2 t))]) (rest := []) (wc := (wM g k L r)) ⟨hx, hb, hml, hown, hTB⟩ (c_Mod_isEmpty l D g k L hL0 hL r hrB (iaR r d2 t) (by omega) hX hG hS0 hW) (cwV 1 hTB (gd_V k_806 k_808 k_45 k_56 k_809) rfl rfl rfl (by decide +kernel) ⟨Nat.le_of_ble_eq_true rfl, Nat.le_of_ble_eq_true rfl⟩) hK hP [0, 1, 2, 3, 4, 5, 6, 7, 8, 9, 10] rfl 0 rfl rfl rfl hl.1 rfl (Nat.le_of_ble_eq_true rfl) d_Mod_moves_139 ⟨Nat.zero_le _, Nat.zero_le _⟩ hS (fun H locs hP hS => ?_)
                refine gz_ifz_ne (tgt := 148) hx hb d_Mod_moves_142 (by decide) (fun h142 => ?_) (fun h142 => ?_)
                · have hn6 : ¬ (rNd r (20 * iaR r d2 t) = 2 ∧ ieR r (iaR r d2 t) = false) := fun z => absurd (h142.symm.trans z.2) (by decide)
                  refine lv_iload_n hx hb d_Mod_moves_148 rfl (lv_at hl 7 rfl) ?_
                  refine lv_istore (lv' := [(9, .int (nI d2)), (8, .int (nI (iaR r d2 t))), (7, .int (nI t)), (6, .int (nI (iaR r d j))), (5, .int (nI j)), (0, .ref (g 20)), (1, .int (nI d)), (2, .int (nI w)), (3, .int (nI d2)), (4, .int (nI w2))]) hx hb d_Mod_moves_149 hl (by decide) rfl (fun ls hl => ?_)
                  refine gz_loop 151 (fun (zz : (Nat × Int32)) H locs ls => match zz with | (m1, x) => va_P D cl5 (wM g k L r) H ∧ va_D A (wM g k L r) ∧ va_S A s.heap H locs ∧ lv_has ls 10 [(8, .int (nI (iaR r d2 t))), (7, .int (nI t)), (6, .int (nI (iaR r d j))), (5, .int (nI j)), (0, .ref (g 20)), (1, .int (nI d)), (3, .int (nI d2)), (4, .int (nI w2)), (9, .int (x))] ∧ (x < 0 ∨ ∃ z, z < 64 ∧ x = nI z) ∧ (0 ≤ x → upE r (iaR r d j) m1 x = true) ∧ (upG r (iaR r d j) m1 x = upG r (iaR r d j) 65 (nI d2))) (fun (zz : (Nat × Int32)) => match zz with | (m1, x) => m1) (fun zz H locs ls hI ih151 => ?_) (65, nI d2) ⟨hP, hD, hS, lv_sub hl [1, 2, 3, 4, 5, 6, 8, 9, 0] rfl, (Or.inr ⟨d2, hd2, rfl⟩), (fun _ => hU h43 _ hia), rfl⟩
                  obtain ⟨m1, x⟩ := zz
                  obtain ⟨hP, hD, hS, hl, hx9, hue, hug⟩ := hI
                  refine lv_iload hx hb d_Mod_moves_151 (lv_at hl 8 rfl) ?_
                  refine lv_if_lt (tgt := 187) hx hb d_Mod_moves_153 (by decide) (fun h153 => ?_) (fun h153 => ?_)
                  · have hnu : ¬ (rNd r (20 * (iaR r d j)) = 2 ∧ upG r (iaR r d j) 65 (nI d2) = true) := fun z => absurd ((hug.trans z.2).symm.trans (up_n h153)) (by decide)
                    refine lv_aload_n hx hb d_Mod_moves_187 rfl (lv_at hl 4 rfl) ?_
                    refine lv_iload_n hx hb d_Mod_moves_188 rfl (lv_at hl 5 rfl) ?_
                    refine lv_iload hx hb d_Mod_moves_189 (lv_at hl 3 rfl) ?_
                    refine lv_iconst (v := nI 0) hx hb d_Mod_moves_191 (by decide +kernel) ?_
                    refine lv_iconst (v := nI 0) hx hb d_Mod_moves_192 (by decide +kernel) ?_
                    refine gz_muV (As := [.int (nI d), .int (nI j), .int (nI 0), .int (nI 0)]) (rest := []) (wc := (wM g k L r)) (w1 := (wM g k L (enR r d j 0 0))) (wr := []) ⟨hx, hb, hml, hown, hTB⟩ (c_Mod_enters l D g k L hL0 hL r hrB d j 0 0 (by omega) (by omega) hX hG (by omega) (by omega) (by omega)) (cwV 4 hTB (gd_V k_782 k_784 k_39 k_56 k_785) rfl rfl rfl (by decide +kernel) ⟨Nat.le_of_ble_eq_true rfl, Nat.le_of_ble_eq_true rfl⟩) hK hP hD hA [0, 1, 2, 3, 4, 5, 6, 7, 8, 9, 10] [] rfl rfl (by decide) rfl (by decide) (by decide) 0 rfl rfl rfl hl.1 rfl (Nat.le_of_ble_eq_true rfl) d_Mod_moves_193 ⟨Nat.zero_le _, Nat.zero_le _⟩ hS (fun H locs hP hD hS => ?_)
                    have hP : va_P D cl5 (wM g k L (enR r d j 0 0)) H := hP
                    have hD : va_D A (wM g k L (enR r d j 0 0)) := hD
                    have hok2 : okR L (enR r d j 0 0) := ok_en hok (by decide) (by decide)
                    have hrB := enR_B (d := d) (e := j) (w := 0) (i := 0) hrB (by decide) (by decide)
                    refine lv_iload hx hb d_Mod_moves_196 (lv_at hl 0 rfl) ?_
                    refine gz_if_ge (tgt := 220) hx hb d_Mod_moves_198 (by decide) (by omega) ?_
                    have hwf := hok2.1
                    refine lv_aload_n hx hb d_Mod_moves_220 rfl (lv_at hl 4 rfl) ?_
                    refine lv_iload hx hb d_Mod_moves_221 (lv_at hl 0 rfl) ?_
                    refine gz_muV (As := [.int (nI (iaR r d2 t))]) (rest := []) (wc := (wM g k L (enR r d j 0 0))) (w1 := (wM g k L (frR (enR r d j 0 0) (iaR r d2 t)))) (wr := []) ⟨hx, hb, hml, hown, hTB⟩ (c_Mod_frees l D g k L hL0 hL (enR r d j 0 0) hrB (iaR r d2 t) (by omega) hwf) (cwV 1 hTB (gd_V k_814 k_816 k_47 k_56 k_817) rfl rfl rfl (by decide +kernel) ⟨Nat.le_of_ble_eq_true rfl, Nat.le_of_ble_eq_true rfl⟩) hK hP hD hA [0, 1, 2, 3, 4, 5, 6, 7, 8, 9, 10] [] rfl rfl (by decide) rfl (by decide) (by decide) 0 rfl rfl rfl hl.1 rfl (Nat.le_of_ble_eq_true rfl) d_Mod_moves_223 ⟨Nat.zero_le _, Nat.zero_le _⟩ hS (fun H locs hP hD hS => ?_)
                    have hP : va_P D cl5 (wM g k L (frR (enR r d j 0 0) (iaR r d2 t))) H := hP
                    have hD : va_D A (wM g k L (frR (enR r d j 0 0) (iaR r d2 t))) := hD
                    have hbf : bsR (rNd (frR (enR r d j 0 0) (iaR r d2 t))) d2 = bsR (rNd r) d2 := fr_bs hia2 hd2 (fun z => hid2 z.symm) hok2.1 hrB
                    have hwf2 := (fr_wf hia2 hok2.1 hrB).1
                    have hrB := (fr_wf hia2 hok2.1 hrB).2
                    have hX := wf_X hwf2
                    have hG := wf_G hwf2 hL
                    refine lv_aload_n hx hb d_Mod_moves_226 rfl (lv_at hl 4 rfl) ?_
                    refine lv_iload_n hx hb d_Mod_moves_227 rfl (lv_at hl 6 rfl) ?_
                    refine lv_iload hx hb d_Mod_moves_228 (lv_at hl 1 rfl) ?_
                    refine lv_iload hx hb d_Mod_moves_230 (lv_at hl 7 rfl) ?_
                    refine lv_iload hx hb d_Mod_moves_232 (lv_at hl 2 rfl) ?_
                    refine gz_muV (As := [.int (nI d2), .int (nI t), .int (nI w2), .int (nI (iaR r d j))]) (rest := []) (wc := (wM g k L (frR (enR r d j 0 0) (iaR r d2 t)))) (w1 := (wM g k L (enR (frR (enR r d j 0 0) (iaR r d2 t)) d2 t w2 (iaR r d j)))) (wr := []) ⟨hx, hb, hml, hown, hTB⟩ (c_Mod_enters l D g k L hL0 hL (frR (enR r d j 0 0) (iaR r d2 t)) hrB d2 t w2 (iaR r d j) (by omega) (by omega) hX hG (by omega) (by omega) (by omega)) (cwV 4 hTB (gd_V k_782 k_784 k_39 k_56 k_785) rfl rfl rfl (by decide +kernel) ⟨Nat.le_of_ble_eq_true rfl, Nat.le_of_ble_eq_true rfl⟩) hK hP hD hA [0, 1, 2, 3, 4, 5, 6, 7, 8, 9, 10] [] rfl rfl (by decide) rfl (by decide) (by decide) 0 rfl rfl rfl hl.1 rfl (Nat.le_of_ble_eq_true rfl) d_Mod_moves_234 ⟨Nat.zero_le _, Nat.zero_le _⟩ hS (fun H locs hP hD hS => ?_)
                    have hP : va_P D cl5 (wM g k L (enR (frR (enR r d j 0 0) (iaR r d2 t)) d2 t w2 (iaR r d j))) H := hP
                    have hD : va_D A (wM g k L (enR (frR (enR r d j 0 0) (iaR r d2 t)) d2 t w2 (iaR r d j))) := hD
                    refine lv_iconst (v := nI 0) hx hb d_Mod_moves_237 (by decide +kernel) ?_
                    have hP9 : va_P D cl5 (wM g k L ((mvR L r d w d2 w2).2)) H := (by unfold mvR; rw [if_pos h5, if_pos h24]; unfold m1R; rw [if_pos h43, if_neg hns, ej, nI_clamp (by omega)]; unfold m2R; rw [if_pos h63x, et, nI_clamp (by omega), if_pos h115, if_neg hn6, if_neg hnu]; exact hP)
                    have hD9 : va_D A (wM g k L ((mvR L r d w d2 w2).2)) := (by unfold mvR; rw [if_pos h5, if_pos h24]; unfold m1R; rw [if_pos h43, if_neg hns, ej, nI_clamp (by omega)]; unfold m2R; rw [if_pos h63x, et, nI_clamp (by omega), if_pos h115, if_neg hn6, if_neg hnu]; exact hD)
                    exact W.iret (v := nI 0) hx hb hr (fun tt9 ht9 hW9 => ⟨⟨_, (), rfl, (by unfold mvR; rw [if_pos h5, if_pos h24]; unfold m1R; rw [if_pos h43, if_neg hns, ej, nI_clamp (by omega)]; unfold m2R; rw [if_pos h63x, et, nI_clamp (by omega), if_pos h115, if_neg hn6, if_neg hnu]), ⟨by rw [ht9]; exact hP9, hD9⟩⟩, hS.F ht9⟩) hS.2.2 d_Mod_moves_238
                  · obtain ⟨z, hz, rfl⟩ := hx9.resolve_left h153
                    refine lv_aload_n hx hb d_Mod_moves_156 rfl (lv_at hl 4 rfl) ?_
                    refine lv_iload hx hb d_Mod_moves_157 (lv_at hl 2 rfl) ?_
                    refine gz_roV (As := [.int (nI (iaR r d j))]) (rest := []) (wc := (wM g k L r)) ⟨hx, hb, hml, hown, hTB⟩ (c_Mod_kind l D g k L hL0 hL r hrB (iaR r d j) (by omega)) (cwV 1 hTB (gd_V k_734 k_736 k_27 k_56 k_737) rfl rfl rfl (by decide +kernel) ⟨Nat.le_of_ble_eq_true rfl, Nat.le_of_ble_eq_true rfl⟩) hK hP [0, 1, 2, 3, 4, 5, 6, 7, 8, 9, 10] rfl 0 rfl rfl rfl hl.1 rfl (Nat.le_of_ble_eq_true rfl) d_Mod_moves_159 ⟨Nat.zero_le _, Nat.zero_le _⟩ hS (fun H locs hP hS => ?_)
                    have := (hrB (20 * (iaR r d j))).2.1
                    refine lv_iconst (v := nI 2) hx hb d_Mod_moves_162 (by decide +kernel) ?_
                    refine gz_icmp_ne (tgt := 187) hx hb d_Mod_moves_163 (by decide) (by omega) (by omega) (fun h163 => ?_) (fun h163 => ?_)
                    · have hnu : ¬ (rNd r (20 * (iaR r d j)) = 2 ∧ upG r (iaR r d j) 65 (nI d2) = true) := fun z => h163 z.1
                      refine lv_aload_n hx hb d_Mod_moves_187 rfl (lv_at hl 4 rfl) ?_
                      refine lv_iload_n hx hb d_Mod_moves_188 rfl (lv_at hl 5 rfl) ?_
                      refine lv_iload hx hb d_Mod_moves_189 (lv_at hl 3 rfl) ?_
                      refine lv_iconst (v := nI 0) hx hb d_Mod_moves_191 (by decide +kernel) ?_
                      refine lv_iconst (v := nI 0) hx hb d_Mod_moves_192 (by decide +kernel) ?_
                      refine gz_muV (As := [.int (nI d), .int (nI j), .int (nI 0), .int (nI 0)]) (rest := []) (wc := (wM g k L r)) (w1 := (wM g k L (enR r d j 0 0))) (wr := []) ⟨hx, hb, hml, hown, hTB⟩ (c_Mod_enters l D g k L hL0 hL r hrB d j 0 0 (by omega) (by omega) hX hG (by omega) (by omega) (by omega)) (cwV 4 hTB (gd_V k_782 k_784 k_39 k_56 k_785) rfl rfl rfl (by decide +kernel) ⟨Nat.le_of_ble_eq_true rfl, Nat.le_of_ble_eq_true rfl⟩) hK hP hD hA [0, 1, 2, 3, 4, 5, 6, 7, 8, 9, 10] [] rfl rfl (by decide) rfl (by decide) (by decide) 0 rfl rfl rfl hl.1 rfl (Nat.le_of_ble_eq_true rfl) d_Mod_moves_193 ⟨Nat.zero_le _, Nat.zero_le _⟩ hS (fun H locs hP hD hS => ?_)
                      have hP : va_P D cl5 (wM g k L (enR r d j 0 0)) H := hP
                      have hD : va_D A (wM g k L (enR r d j 0 0)) := hD
                      have hok2 : okR L (enR r d j 0 0) := ok_en hok (by decide) (by decide)
                      have hrB := enR_B (d := d) (e := j) (w := 0) (i := 0) hrB (by decide) (by decide)
                      refine lv_iload hx hb d_Mod_moves_196 (lv_at hl 0 rfl) ?_
                      refine gz_if_ge (tgt := 220) hx hb d_Mod_moves_198 (by decide) (by omega) ?_
                      have hwf := hok2.1
                      refine lv_aload_n hx hb d_Mod_moves_220 rfl (lv_at hl 4 rfl) ?_
                      refine lv_iload hx hb d_Mod_moves_221 (lv_at hl 0 rfl) ?_
                      refine gz_muV (As := [.int (nI (iaR r d2 t))]) (rest := []) (wc := (wM g k L (enR r d j 0 0))) (w1 := (wM g k L (frR (enR r d j 0 0) (iaR r d2 t)))) (wr := []) ⟨hx, hb, hml, hown, hTB⟩ (c_Mod_frees l D g k L hL0 hL (enR r d j 0 0) hrB (iaR r d2 t) (by omega) hwf) (cwV 1 hTB (gd_V k_814 k_816 k_47 k_56 k_817) rfl rfl rfl (by decide +kernel) ⟨Nat.le_of_ble_eq_true rfl, Nat.le_of_ble_eq_true rfl⟩) hK hP hD hA [0, 1, 2, 3, 4, 5, 6, 7, 8, 9, 10] [] rfl rfl (by decide) rfl (by decide) (by decide) 0 rfl rfl rfl hl.1 rfl (Nat.le_of_ble_eq_true rfl) d_Mod_moves_223 ⟨Nat.zero_le _, Nat.zero_le _⟩ hS (fun H locs hP hD hS => ?_)
                      have hP : va_P D cl5 (wM g k L (frR (enR r d j 0 0) (iaR r d2 t))) H := hP
                      have hD : va_D A (wM g k L (frR (enR r d j 0 0) (iaR r d2 t))) := hD
                      have hbf : bsR (rNd (frR (enR r d j 0 0) (iaR r d2 t))) d2 = bsR (rNd r) d2 := fr_bs hia2 hd2 (fun z => hid2 z.symm) hok2.1 hrB
                      have hwf2 := (fr_wf hia2 hok2.1 hrB).1
                      have hrB := (fr_wf hia2 hok2.1 hrB).2
                      have hX := wf_X hwf2
                      have hG := wf_G hwf2 hL
                      refine lv_aload_n hx hb d_Mod_moves_226 rfl (lv_at hl 4 rfl) ?_
                      refine lv_iload_n hx hb d_Mod_moves_227 rfl (lv_at hl 6 rfl) ?_
                      refine lv_iload hx hb d_Mod_moves_228 (lv_at hl 1 rfl) ?_
                      refine lv_iload hx hb d_Mod_moves_230 (lv_at hl 7 rfl) ?_
                      refine lv_iload hx hb d_Mod_moves_232 (lv_at hl 2 rfl) ?_
                      refine gz_muV (As := [.int (nI d2), .int (nI t), .int (nI w2), .int (nI (iaR r d j))]) (rest := []) (wc := (wM g k L (frR (enR r d j 0 0) (iaR r d2 t)))) (w1 := (wM g k L (enR (frR (enR r d j 0 0) (iaR r d2 t)) d2 t w2 (iaR r d j)))) (wr := []) ⟨hx, hb, hml, hown, hTB⟩ (c_Mod_enters l D g k L hL0 hL (frR (enR r d j 0 0) (iaR r d2 t)) hrB d2 t w2 (iaR r d j) (by omega) (by omega) hX hG (by omega) (by omega) (by omega)) (cwV 4 hTB (gd_V k_782 k_784 k_39 k_56 k_785) rfl rfl rfl (by decide +kernel) ⟨Nat.le_of_ble_eq_true rfl, Nat.le_of_ble_eq_true rfl⟩) hK hP hD hA [0, 1, 2, 3, 4, 5, 6, 7, 8, 9, 10] [] rfl rfl (by decide) rfl (by decide) (by decide) 0 rfl rfl rfl hl.1 rfl (Nat.le_of_ble_eq_true rfl) d_Mod_moves_234 ⟨Nat.zero_le _, Nat.zero_le _⟩ hS (fun H locs hP hD hS => ?_)
                      have hP : va_P D cl5 (wM g k L (enR (frR (enR r d j 0 0) (iaR r d2 t)) d2 t w2 (iaR r d j))) H := hP
                      have hD : va_D A (wM g k L (enR (frR (enR r d j 0 0) (iaR r d2 t)) d2 t w2 (iaR r d j))) := hD
                      refine lv_iconst (v := nI 0) hx hb d_Mod_moves_237 (by decide +kernel) ?_
                      have hP9 : va_P D cl5 (wM g k L ((mvR L r d w d2 w2).2)) H := (by unfold mvR; rw [if_pos h5, if_pos h24]; unfold m1R; rw [if_pos h43, if_neg hns, ej, nI_clamp (by omega)]; unfold m2R; rw [if_pos h63x, et, nI_clamp (by omega), if_pos h115, if_neg hn6, if_neg hnu]; exact hP)
                      have hD9 : va_D A (wM g k L ((mvR L r d w d2 w2).2)) := (by unfold mvR; rw [if_pos h5, if_pos h24]; unfold m1R; rw [if_pos h43, if_neg hns, ej, nI_clamp (by omega)]; unfold m2R; rw [if_pos h63x, et, nI_clamp (by omega), if_pos h115, if_neg hn6, if_neg hnu]; exact hD)
                      exact W.iret (v := nI 0) hx hb hr (fun tt9 ht9 hW9 => ⟨⟨_, (), rfl, (by unfold mvR; rw [if_pos h5, if_pos h24]; unfold m1R; rw [if_pos h43, if_neg hns, ej, nI_clamp (by omega)]; unfold m2R; rw [if_pos h63x, et, nI_clamp (by omega), if_pos h115, if_neg hn6, if_neg hnu]), ⟨by rw [ht9]; exact hP9, hD9⟩⟩, hS.F ht9⟩) hS.2.2 d_Mod_moves_238
                    · refine lv_iload hx hb d_Mod_moves_166 (lv_at hl 8 rfl) ?_
                      refine lv_iload hx hb d_Mod_moves_168 (lv_at hl 2 rfl) ?_
                      refine gz_icmp_ne (tgt := 176) hx hb d_Mod_moves_170 (by decide) (by omega) (by omega) (fun h170 => ?_) (fun h170 => ?_)
                      · refine lv_aload_n hx hb d_Mod_moves_176 rfl (lv_at hl 4 rfl) ?_
                        refine lv_iload hx hb d_Mod_moves_177 (lv_at hl 8 rfl) ?_
                        refine gz_roV (As := [.int (nI z)]) (rest := []) (wc := (wM g k L r)) ⟨hx, hb, hml, hown, hTB⟩ (c_Mod_parentOf l D g k L hL0 hL r hrB z (by omega) hok) (cwV 1 hTB (gd_V k_810 k_812 k_46 k_56 k_813) rfl rfl rfl (by decide +kernel) ⟨Nat.le_of_ble_eq_true rfl, Nat.le_of_ble_eq_true rfl⟩) hK hP [0, 1, 2, 3, 4, 5, 6, 7, 8, 9, 10] rfl 0 rfl rfl rfl hl.1 rfl (Nat.le_of_ble_eq_true rfl) d_Mod_moves_179 ⟨Nat.zero_le _, Nat.zero_le _⟩ hS (fun H locs hP hS => ?_)
                        refine lv_istore (lv' := [(9, .int (paR r z)), (8, .int (nI (iaR r d2 t))), (7, .int (nI t)), (6, .int (nI (iaR r d j))), (5, .int (nI j)), (0, .ref (g 20)), (1, .int (nI d)), (3, .int (nI d2)), (4, .int (nI w2))]) hx hb d_Mod_moves_182 hl (by decide) rfl (fun ls hl => ?_)
                        refine lv_goto (tgt := 151) hx hb d_Mod_moves_184 (by decide) ?_
                        have hs9 := up_s hz hia h170 (hue (nI_pos' (by omega)))
                        exact ih151 (m1 - 1, paR r z) _ _ _ (by have := hs9.1; first | omega | (dsimp only; omega)) ⟨hP, hD, hS, lv_sub hl [1, 2, 3, 4, 5, 6, 7, 8, 0] rfl, (by rcases Int32.lt_or_le (paR r z) 0 with q | q; exact Or.inl q; exact Or.inr (paR_of (Int32.not_lt.mpr q))), (fun _ => hs9.2.1), (by rw [← hug]; exact hs9.2.2)⟩
                      · have hyu : upG r (iaR r d j) 65 (nI d2) = true := by rw [← hug]; subst h170; exact up_y hia (hue (nI_pos' (by omega)))
                        refine lv_bipush (v := (-7)) hx hb d_Mod_moves_173 (by decide +kernel) ?_
                        have hP9 : va_P D cl5 (wM g k L ((mvR L r d w d2 w2).2)) H := (by unfold mvR; rw [if_pos h5, if_pos h24]; unfold m1R; rw [if_pos h43, if_neg hns, ej, nI_clamp (by omega)]; unfold m2R; rw [if_pos h63x, et, nI_clamp (by omega), if_pos h115, if_neg hn6, if_pos ⟨h163, hyu⟩]; exact hP)
                        have hD9 : va_D A (wM g k L ((mvR L r d w d2 w2).2)) := (by unfold mvR; rw [if_pos h5, if_pos h24]; unfold m1R; rw [if_pos h43, if_neg hns, ej, nI_clamp (by omega)]; unfold m2R; rw [if_pos h63x, et, nI_clamp (by omega), if_pos h115, if_neg hn6, if_pos ⟨h163, hyu⟩]; exact hD)
                        exact W.iret (v := (-7)) hx hb hr (fun tt9 ht9 hW9 => ⟨⟨_, (), rfl, (by unfold mvR; rw [if_pos h5, if_pos h24]; unfold m1R; rw [if_pos h43, if_neg hns, ej, nI_clamp (by omega)]; unfold m2R; rw [if_pos h63x, et, nI_clamp (by omega), if_pos h115, if_neg hn6, if_pos ⟨h163, hyu⟩]), ⟨by rw [ht9]; exact hP9, hD9⟩⟩, hS.F ht9⟩) hS.2.2 d_Mod_moves_175
                · refine lv_bipush (v := (-6)) hx hb d_Mod_moves_145 (by decide +kernel) ?_
                  have hP9 : va_P D cl5 (wM g k L ((mvR L r d w d2 w2).2)) H := (by unfold mvR; rw [if_pos h5, if_pos h24]; unfold m1R; rw [if_pos h43, if_neg hns, ej, nI_clamp (by omega)]; unfold m2R; rw [if_pos h63x, et, nI_clamp (by omega), if_pos h115, if_pos ⟨h133, h142⟩]; exact hP)
                  have hD9 : va_D A (wM g k L ((mvR L r d w d2 w2).2)) := (by unfold mvR; rw [if_pos h5, if_pos h24]; unfold m1R; rw [if_pos h43, if_neg hns, ej, nI_clamp (by omega)]; unfold m2R; rw [if_pos h63x, et, nI_clamp (by omega), if_pos h115, if_pos ⟨h133, h142⟩]; exact hD)
                  exact W.iret (v := (-6)) hx hb hr (fun tt9 ht9 hW9 => ⟨⟨_, (), rfl, (by unfold mvR; rw [if_pos h5, if_pos h24]; unfold m1R; rw [if_pos h43, if_neg hns, ej, nI_clamp (by omega)]; unfold m2R; rw [if_pos h63x, et, nI_clamp (by omega), if_pos h115, if_pos ⟨h133, h142⟩]), ⟨by rw [ht9]; exact hP9, hD9⟩⟩, hS.F ht9⟩) hS.2.2 d_Mod_moves_147
            · refine lv_bipush (v := (-5)) hx hb d_Mod_moves_118 (by decide +kernel) ?_
              have hP9 : va_P D cl5 (wM g k L ((mvR L r d w d2 w2).2)) H := (by unfold mvR; rw [if_pos h5, if_pos h24]; unfold m1R; rw [if_pos h43, if_neg hns, ej, nI_clamp (by omega)]; unfold m2R; rw [if_pos h63x, et, nI_clamp (by omega), if_neg h115]; exact hP)
              have hD9 : va_D A (wM g k L ((mvR L r d w d2 w2).2)) := (by unfold mvR; rw [if_pos h5, if_pos h24]; unfold m1R; rw [if_pos h43, if_neg hns, ej, nI_clamp (by omega)]; unfold m2R; rw [if_pos h63x, et, nI_clamp (by omega), if_neg h115]; exact hD)
              exact W.iret (v := (-5)) hx hb hr (fun tt9 ht9 hW9 => ⟨⟨_, (), rfl, (by unfold mvR; rw [if_pos h5, if_pos h24]; unfold m1R; rw [if_pos h43, if_neg hns, ej, nI_clamp (by omega)]; unfold m2R; rw [if_pos h63x, et, nI_clamp (by omega), if_neg h115]), ⟨by rw [ht9]; exact hP9, hD9⟩⟩, hS.F ht9⟩) hS.2.2 d_Mod_moves_120
          · refine lv_iload hx hb d_Mod_moves_71 (lv_at hl 0 rfl) ?_
            refine lv_iload hx hb d_Mod_moves_73 (lv_at hl 2 rfl) ?_
            refine gz_icmp_ne (tgt := 80) hx hb d_Mod_moves_75 (by decide) (by omega) (by omega) (fun h75 => ?_) (fun h75 => ?_)
            · have hns : ¬ (0 ≤ eoR r d2 w2 ∧ d2 = d ∧ eoR r d2 w2 = eoR r d w) := fun z => h75 ((nI_eq (by omega) (by omega)).mp (et.symm.trans (z.2.2.trans ej)))
              refine lv_iload hx hb d_Mod_moves_80 (lv_at hl 0 rfl) ?_
              refine gz_if_ge (tgt := 89) hx hb d_Mod_moves_82 (by decide) (by omega) ?_
              refine lv_aload_n hx hb d_Mod_moves_89 rfl (lv_at hl 3 rfl) ?_
              refine lv_iload_n hx hb d_Mod_moves_90 rfl (lv_at hl 6 rfl) ?_
              refine lv_iload hx hb d_Mod_moves_91 (lv_at hl 0 rfl) ?_
              refine gz_roV (As := [.int (nI d2), .int (nI t)]) (rest := []) (wc := (wM g k L r)) ⟨hx, hb, hml, hown, hTB⟩ (c_Mod_inodeAt l D g k L hL0 hL r hrB d2 t (by omega) (by omega) hX hG (by omega)) (cwV 2 hTB (gd_V k_802 k_804 k_44 k_56 k_805) rfl rfl rfl (by decide +kernel) ⟨Nat.le_of_ble_eq_true rfl, Nat.le_of_ble_eq_true rfl⟩) hK hP [0, 1, 2, 3, 4, 5, 6, 7, 8, 9, 10] rfl 0 rfl rfl rfl hl.1 rfl (Nat.le_of_ble_eq_true rfl) d_Mod_moves_93 ⟨Nat.zero_le _, Nat.zero_le _⟩ hS (fun H locs hP hS => ?_)
              have : iaR r d2 t < 65536 := (hrB _).2.2.2.1
              refine lv_istore (lv' := [(8, .int (nI (iaR r d2 t))), (7, .int (nI t)), (6, .int (nI (iaR r d j))), (5, .int (nI j)), (0, .ref (g 20)), (1, .int (nI d)), (2, .int (nI w)), (3, .int (nI d2)), (4, .int (nI w2))]) hx hb d_Mod_moves_96 hl (by decide) rfl (fun ls hl => ?_)
              refine lv_iload hx hb d_Mod_moves_98 (lv_at hl 0 rfl) ?_
              refine gz_if_lt (tgt := 121) hx hb d_Mod_moves_100 (by decide) (by omega) ?_
              refine lv_aload_n hx hb d_Mod_moves_103 rfl (lv_at hl 4 rfl) ?_
              refine lv_iload hx hb d_Mod_moves_104 (lv_at hl 2 rfl) ?_
              refine gz_roV (As := [.int (nI (iaR r d j))]) (rest := []) (wc := (wM g k L r)) ⟨hx, hb, hml, hown, hTB⟩ (c_Mod_kind l D g k L hL0 hL r hrB (iaR r d j) (by omega)) (cwV 1 hTB (gd_V k_734 k_736 k_27 k_56 k_737) rfl rfl rfl (by decide +kernel) ⟨Nat.le_of_ble_eq_true rfl, Nat.le_of_ble_eq_true rfl⟩) hK hP [0, 1, 2, 3, 4, 5, 6, 7, 8, 9, 10] rfl 0 rfl rfl rfl hl.1 rfl (Nat.le_of_ble_eq_true rfl) d_Mod_moves_106 ⟨Nat.zero_le _, Nat.zero_le _⟩ hS (fun H locs hP hS => ?_)
              have := (hrB (20 * (iaR r d j))).2.1
              refine lv_aload_n hx hb d_Mod_moves_109 rfl (lv_at hl 4 rfl) ?_
              refine lv_iload hx hb d_Mod_moves_110 (lv_at hl 0 rfl) ?_
              refine gz_roV (As := [.int (nI (iaR r d2 t))]) (rest := [.int (nI (rNd r (20 * (iaR r d j))))]) (wc := (wM g k L r)) ⟨hx, hb, hml, hown, hTB⟩ (c_Mod_kind l D g k L hL0 hL r hrB (iaR r d2 t) (by omega)) (cwV 1 hTB (gd_V k_734 k_736 k_27 k_56 k_737) rfl rfl rfl (by decide +kernel) ⟨Nat.le_of_ble_eq_true rfl, Nat.le_of_ble_eq_true rfl⟩) hK hP [0, 1, 2, 3, 4, 5, 6, 7, 8, 9, 10] rfl 0 rfl rfl rfl hl.1 rfl (Nat.le_of_ble_eq_true rfl) d_Mod_moves_112 ⟨Nat.zero_le _, Nat.zero_le _⟩ hS (fun H locs hP hS => ?_)
              have := (hrB (20 * (iaR r d2 t))).2.1
              refine gz_icmp_eq (tgt := 121) hx hb d_Mod_moves_115 (by decide) (by omega) (by omega) (fun h115 => ?_) (fun h115 => ?_)
              · refine lv_iload hx hb d_Mod_moves_121 (lv_at hl 0 rfl) ?_
                refine gz_if_lt (tgt := 148) hx hb d_Mod_moves_123 (by decide) (by omega) ?_
                refine lv_aload_n hx hb d_Mod_moves_126 rfl (lv_at hl 4 rfl) ?_
                refine lv_iload hx hb d_Mod_moves_127 (lv_at hl 0 rfl) ?_
                refine gz_roV (As := [.int (nI (iaR r d2 t))]) (rest := []) (wc := (wM g k L r)) ⟨hx, hb, hml, hown, hTB⟩ (c_Mod_kind l D g k L hL0 hL r hrB (iaR r d2 t) (by omega)) (cwV 1 hTB (gd_V k_734 k_736 k_27 k_56 k_737) rfl rfl rfl (by decide +kernel) ⟨Nat.le_of_ble_eq_true rfl, Nat.le_of_ble_eq_true rfl⟩) hK hP [0, 1, 2, 3, 4, 5, 6, 7, 8, 9, 10] rfl 0 rfl rfl rfl hl.1 rfl (Nat.le_of_ble_eq_true rfl) d_Mod_moves_129 ⟨Nat.zero_le _, Nat.zero_le _⟩ hS (fun H locs hP hS => ?_)
                have := (hrB (20 * (iaR r d2 t))).2.1
                refine lv_iconst (v := nI 2) hx hb d_Mod_moves_132 (by decide +kernel) ?_
                refine gz_icmp_ne (tgt := 148) hx hb d_Mod_moves_133 (by decide) (by omega) (by omega) (fun h133 => ?_) (fun h133 => ?_)
                · have hn6 : ¬ (rNd r (20 * iaR r d2 t) = 2 ∧ ieR r (iaR r d2 t) = false) := fun z => h133 z.1
                  refine lv_iload_n hx hb d_Mod_moves_148 rfl (lv_at hl 7 rfl) ?_
                  refine lv_istore (lv' := [(9, .int (nI d2)), (8, .int (nI (iaR r d2 t))), (7, .int (nI t)), (6, .int (nI (iaR r d j))), (5, .int (nI j)), (0, .ref (g 20)), (1, .int (nI d)), (2, .int (nI w)), (3, .int (nI d2)), (4, .int (nI w2))]) hx hb d_Mod_moves_149 hl (by decide) rfl (fun ls hl => ?_)
                  refine gz_loop 151 (fun (zz : (Nat × Int32)) H locs ls => match zz with | (m1, x) => va_P D cl5 (wM g k L r) H ∧ va_D A (wM g k L r) ∧ va_S A s.heap H locs ∧ lv_has ls 10 [(8, .int (nI (iaR r d2 t))), (7, .int (nI t)), (6, .int (nI (iaR r d j))), (5, .int (nI j)), (0, .ref (g 20)), (1, .int (nI d)), (3, .int (nI d2)), (4, .int (nI w2)), (9, .int (x))] ∧ (x < 0 ∨ ∃ z, z < 64 ∧ x = nI z) ∧ (0 ≤ x → upE r (iaR r d j) m1 x = true) ∧ (upG r (iaR r d j) m1 x = upG r (iaR r d j) 65 (nI d2))) (fun (zz : (Nat × Int32)) => match zz with | (m1, x) => m1) (fun zz H locs ls hI ih151 => ?_) (65, nI d2) ⟨hP, hD, hS, lv_sub hl [1, 2, 3, 4, 5, 6, 8, 9, 0] rfl, (Or.inr ⟨d2, hd2, rfl⟩), (fun _ => hU h43 _ hia), rfl⟩
                  obtain ⟨m1, x⟩ := zz
                  obtain ⟨hP, hD, hS, hl, hx9, hue, hug⟩ := hI
                  refine lv_iload hx hb d_Mod_moves_151 (lv_at hl 8 rfl) ?_
                  refine lv_if_lt (tgt := 187) hx hb d_Mod_moves_153 (by decide) (fun h153 => ?_) (fun h153 => ?_)
                  · have hnu : ¬ (rNd r (20 * (iaR r d j)) = 2 ∧ upG r (iaR r d j) 65 (nI d2) = true) := fun z => absurd ((hug.trans z.2).symm.trans (up_n h153)) (by decide)
                    refine lv_aload_n hx hb d_Mod_moves_187 rfl (lv_at hl 4 rfl) ?_
                    refine lv_iload_n hx hb d_Mod_moves_188 rfl (lv_at hl 5 rfl) ?_
                    refine lv_iload hx hb d_Mod_moves_189 (lv_at hl 3 rfl) ?_
                    refine lv_iconst (v := nI 0) hx hb d_Mod_moves_191 (by decide +kernel) ?_
                    refine lv_iconst (v := nI 0) hx hb d_Mod_moves_192 (by decide +kernel) ?_
                    refine gz_muV (As := [.int (nI d), .int (nI j), .int (nI 0), .int (nI 0)]) (rest := []) (wc := (wM g k L r)) (w1 := (wM g k L (enR r d j 0 0))) (wr := []) ⟨hx, hb, hml, hown, hTB⟩ (c_Mod_enters l D g k L hL0 hL r hrB d j 0 0 (by omega) (by omega) hX hG (by omega) (by omega) (by omega)) (cwV 4 hTB (gd_V k_782 k_784 k_39 k_56 k_785) rfl rfl rfl (by decide +kernel) ⟨Nat.le_of_ble_eq_true rfl, Nat.le_of_ble_eq_true rfl⟩) hK hP hD hA [0, 1, 2, 3, 4, 5, 6, 7, 8, 9, 10] [] rfl rfl (by decide) rfl (by decide) (by decide) 0 rfl rfl rfl hl.1 rfl (Nat.le_of_ble_eq_true rfl) d_Mod_moves_193 ⟨Nat.zero_le _, Nat.zero_le _⟩ hS (fun H locs hP hD hS => ?_)
                    have hP : va_P D cl5 (wM g k L (enR r d j 0 0)) H := hP
                    have hD : va_D A (wM g k L (enR r d j 0 0)) := hD
                    have hok2 : okR L (enR r d j 0 0) := ok_en hok (by decide) (by decide)
                    have hrB := enR_B (d := d) (e := j) (w := 0) (i := 0) hrB (by decide) (by decide)
                    refine lv_iload hx hb d_Mod_moves_196 (lv_at hl 0 rfl) ?_
                    refine gz_if_ge (tgt := 220) hx hb d_Mod_moves_198 (by decide) (by omega) ?_
                    have hwf := hok2.1
                    refine lv_aload_n hx hb d_Mod_moves_220 rfl (lv_at hl 4 rfl) ?_
                    refine lv_iload hx hb d_Mod_moves_221 (lv_at hl 0 rfl) ?_
                    refine gz_muV (As := [.int (nI (iaR r d2 t))]) (rest := []) (wc := (wM g k L (enR r d j 0 0))) (w1 := (wM g k L (frR (enR r d j 0 0) (iaR r d2 t)))) (wr := []) ⟨hx, hb, hml, hown, hTB⟩ (c_Mod_frees l D g k L hL0 hL (enR r d j 0 0) hrB (iaR r d2 t) (by omega) hwf) (cwV 1 hTB (gd_V k_814 k_816 k_47 k_56 k_817) rfl rfl rfl (by decide +kernel) ⟨Nat.le_of_ble_eq_true rfl, Nat.le_of_ble_eq_true rfl⟩) hK hP hD hA [0, 1, 2, 3, 4, 5, 6, 7, 8, 9, 10] [] rfl rfl (by decide) rfl (by decide) (by decide) 0 rfl rfl rfl hl.1 rfl (Nat.le_of_ble_eq_true rfl) d_Mod_moves_223 ⟨Nat.zero_le _, Nat.zero_le _⟩ hS (fun H locs hP hD hS => ?_)
                    have hP : va_P D cl5 (wM g k L (frR (enR r d j 0 0) (iaR r d2 t))) H := hP
                    have hD : va_D A (wM g k L (frR (enR r d j 0 0) (iaR r d2 t))) := hD
                    have hbf : bsR (rNd (frR (enR r d j 0 0) (iaR r d2 t))) d2 = bsR (rNd r) d2 := fr_bs hia2 hd2 (fun z => hid2 z.symm) hok2.1 hrB
                    have hwf2 := (fr_wf hia2 hok2.1 hrB).1
                    have hrB := (fr_wf hia2 hok2.1 hrB).2
                    have hX := wf_X hwf2
                    have hG := wf_G hwf2 hL
                    refine lv_aload_n hx hb d_Mod_moves_226 rfl (lv_at hl 4 rfl) ?_
                    refine lv_iload_n hx hb d_Mod_moves_227 rfl (lv_at hl 6 rfl) ?_
                    refine lv_iload hx hb d_Mod_moves_228 (lv_at hl 1 rfl) ?_
                    refine lv_iload hx hb d_Mod_moves_230 (lv_at hl 7 rfl) ?_
                    refine lv_iload hx hb d_Mod_moves_232 (lv_at hl 2 rfl) ?_
                    refine gz_muV (As := [.int (nI d2), .int (nI t), .int (nI w2), .int (nI (iaR r d j))]) (rest := []) (wc := (wM g k L (frR (enR r d j 0 0) (iaR r d2 t)))) (w1 := (wM g k L (enR (frR (enR r d j 0 0) (iaR r d2 t)) d2 t w2 (iaR r d j)))) (wr := []) ⟨hx, hb, hml, hown, hTB⟩ (c_Mod_enters l D g k L hL0 hL (frR (enR r d j 0 0) (iaR r d2 t)) hrB d2 t w2 (iaR r d j) (by omega) (by omega) hX hG (by omega) (by omega) (by omega)) (cwV 4 hTB (gd_V k_782 k_784 k_39 k_56 k_785) rfl rfl rfl (by decide +kernel) ⟨Nat.le_of_ble_eq_true rfl, Nat.le_of_ble_eq_true rfl⟩) hK hP hD hA [0, 1, 2, 3, 4, 5, 6, 7, 8, 9, 10] [] rfl rfl (by decide) rfl (by decide) (by decide) 0 rfl rfl rfl hl.1 rfl (Nat.le_of_ble_eq_true rfl) d_Mod_moves_234 ⟨Nat.zero_le _, Nat.zero_le _⟩ hS (fun H locs hP hD hS => ?_)
                    have hP : va_P D cl5 (wM g k L (enR (frR (enR r d j 0 0) (iaR r d2 t)) d2 t w2 (iaR r d j))) H := hP
                    have hD : va_D A (wM g k L (enR (frR (enR r d j 0 0) (iaR r d2 t)) d2 t w2 (iaR r d j))) := hD
                    refine lv_iconst (v := nI 0) hx hb d_Mod_moves_237 (by decide +kernel) ?_
                    have hP9 : va_P D cl5 (wM g k L ((mvR L r d w d2 w2).2)) H := (by unfold mvR; rw [if_pos h5, if_pos h24]; unfold m1R; rw [if_pos h43, if_neg hns, ej, nI_clamp (by omega)]; unfold m2R; rw [if_pos h63x, et, nI_clamp (by omega), if_pos h115, if_neg hn6, if_neg hnu]; exact hP)
                    have hD9 : va_D A (wM g k L ((mvR L r d w d2 w2).2)) := (by unfold mvR; rw [if_pos h5, if_pos h24]; unfold m1R; rw [if_pos h43, if_neg hns, ej, nI_clamp (by omega)]; unfold m2R; rw [if_pos h63x, et, nI_clamp (by omega), if_pos h115, if_neg hn6, if_neg hnu]; exact hD)
                    exact W.iret (v := nI 0) hx hb hr (fun tt9 ht9 hW9 => ⟨⟨_, (), rfl, (by unfold mvR; rw [if_pos h5, if_pos h24]; unfold m1R; rw [if_pos h43, if_neg hns, ej, nI_clamp (by omega)]; unfold m2R; rw [if_pos h63x, et, nI_clamp (by omega), if_pos h115, if_neg hn6, if_neg hnu]), ⟨by rw [ht9]; exact hP9, hD9⟩⟩, hS.F ht9⟩) hS.2.2 d_Mod_moves_238
                  · obtain ⟨z, hz, rfl⟩ := hx9.resolve_left h153
                    refine lv_aload_n hx hb d_Mod_moves_156 rfl (lv_at hl 4 rfl) ?_
                    refine lv_iload hx hb d_Mod_moves_157 (lv_at hl 2 rfl) ?_
                    refine gz_roV (As := [.int (nI (iaR r d j))]) (rest := []) (wc := (wM g k L r)) ⟨hx, hb, hml, hown, hTB⟩ (c_Mod_kind l D g k L hL0 hL r hrB (iaR r d j) (by omega)) (cwV 1 hTB (gd_V k_734 k_736 k_27 k_56 k_737) rfl rfl rfl (by decide +kernel) ⟨Nat.le_of_ble_eq_true rfl, Nat.le_of_ble_eq_true rfl⟩) hK hP [0, 1, 2, 3, 4, 5, 6, 7, 8, 9, 10] rfl 0 rfl rfl rfl hl.1 rfl (Nat.le_of_ble_eq_true rfl) d_Mod_moves_159 ⟨Nat.zero_le _, Nat.zero_le _⟩ hS (fun H locs hP hS => ?_)
                    have := (hrB (20 * (iaR r d j))).2.1
                    refine lv_iconst (v := nI 2) hx hb d_Mod_moves_162 (by decide +kernel) ?_
                    refine gz_icmp_ne (tgt := 187) hx hb d_Mod_moves_163 (by decide) (by omega) (by omega) (fun h163 => ?_) (fun h163 => ?_)
                    · have hnu : ¬ (rNd r (20 * (iaR r d j)) = 2 ∧ upG r (iaR r d j) 65 (nI d2) = true) := fun z => h163 z.1
                      refine lv_aload_n hx hb d_Mod_moves_187 rfl (lv_at hl 4 rfl) ?_
                      refine lv_iload_n hx hb d_Mod_moves_188 rfl (lv_at hl 5 rfl) ?_
                      refine lv_iload hx hb d_Mod_moves_189 (lv_at hl 3 rfl) ?_
                      refine lv_iconst (v := nI 0) hx hb d_Mod_moves_191 (by decide +kernel) ?_
                      refine lv_iconst (v := nI 0) hx hb d_Mod_moves_192 (by decide +kernel) ?_
                      refine gz_muV (As := [.int (nI d), .int (nI j), .int (nI 0), .int (nI 0)]) (rest := []) (wc := (wM g k L r)) (w1 := (wM g k L (enR r d j 0 0))) (wr := []) ⟨hx, hb, hml, hown, hTB⟩ (c_Mod_enters l D g k L hL0 hL r hrB d j 0 0 (by omega) (by omega) hX hG (by omega) (by omega) (by omega)) (cwV 4 hTB (gd_V k_782 k_784 k_39 k_56 k_785) rfl rfl rfl (by decide +kernel) ⟨Nat.le_of_ble_eq_true rfl, Nat.le_of_ble_eq_true rfl⟩) hK hP hD hA [0, 1, 2, 3, 4, 5, 6, 7, 8, 9, 10] [] rfl rfl (by decide) rfl (by decide) (by decide) 0 rfl rfl rfl hl.1 rfl (Nat.le_of_ble_eq_true rfl) d_Mod_moves_193 ⟨Nat.zero_le _, Nat.zero_le _⟩ hS (fun H locs hP hD hS => ?_)
                      have hP : va_P D cl5 (wM g k L (enR r d j 0 0)) H := hP
                      have hD : va_D A (wM g k L (enR r d j 0 0)) := hD
                      have hok2 : okR L (enR r d j 0 0) := ok_en hok (by decide) (by decide)
                      have hrB := enR_B (d := d) (e := j) (w := 0) (i := 0) hrB (by decide) (by decide)
                      refine lv_iload hx hb d_Mod_moves_196 (lv_at hl 0 rfl) ?_
                      refine gz_if_ge (tgt := 220) hx hb d_Mod_moves_198 (by decide) (by omega) ?_
                      have hwf := hok2.1
                      refine lv_aload_n hx hb d_Mod_moves_220 rfl (lv_at hl 4 rfl) ?_
                      refine lv_iload hx hb d_Mod_moves_221 (lv_at hl 0 rfl) ?_
                      refine gz_muV (As := [.int (nI (iaR r d2 t))]) (rest := []) (wc := (wM g k L (enR r d j 0 0))) (w1 := (wM g k L (frR (enR r d j 0 0) (iaR r d2 t)))) (wr := []) ⟨hx, hb, hml, hown, hTB⟩ (c_Mod_frees l D g k L hL0 hL (enR r d j 0 0) hrB (iaR r d2 t) (by omega) hwf) (cwV 1 hTB (gd_V k_814 k_816 k_47 k_56 k_817) rfl rfl rfl (by decide +kernel) ⟨Nat.le_of_ble_eq_true rfl, Nat.le_of_ble_eq_true rfl⟩) hK hP hD hA [0, 1, 2, 3, 4, 5, 6, 7, 8, 9, 10] [] rfl rfl (by decide) rfl (by decide) (by decide) 0 rfl rfl rfl hl.1 rfl (Nat.le_of_ble_eq_true rfl) d_Mod_moves_223 ⟨Nat.zero_le _, Nat.zero_le _⟩ hS (fun H locs hP hD hS => ?_)
                      have hP : va_P D cl5 (wM g k L (frR (enR r d j 0 0) (iaR r d2 t))) H := hP
                      have hD : va_D A (wM g k L (frR (enR r d j 0 0) (iaR r d2 t))) := hD
                      have hbf : bsR (rNd (frR (enR r d j 0 0) (iaR r d2 t))) d2 = bsR (rNd r) d2 := fr_bs hia2 hd2 (fun z => hid2 z.symm) hok2.1 hrB
                      have hwf2 := (fr_wf hia2 hok2.1 hrB).1
                      have hrB := (fr_wf hia2 hok2.1 hrB).2
                      have hX := wf_X hwf2
                      have hG := wf_G hwf2 hL
                      refine lv_aload_n hx hb d_Mod_moves_226 rfl (lv_at hl 4 rfl) ?_
                      refine lv_iload_n hx hb d_Mod_moves_227 rfl (lv_at hl 6 rfl) ?_
                      refine lv_iload hx hb d_Mod_moves_228 (lv_at hl 1 rfl) ?_
                      refine lv_iload hx hb d_Mod_moves_230 (lv_at hl 7 rfl) ?_
                      refine lv_iload hx hb d_Mod_moves_232 (lv_at hl 2 rfl) ?_
                      refine gz_muV (As := [.int (nI d2), .int (nI t), .int (nI w2), .int (nI (iaR r d j))]) (rest := []) (wc := (wM g k L (frR (enR r d j 0 0) (iaR r d2 t)))) (w1 := (wM g k L (enR (frR (enR r d j 0 0) (iaR r d2 t)) d2 t w2 (iaR r d j)))) (wr := []) ⟨hx, hb, hml, hown, hTB⟩ (c_Mod_enters l D g k L hL0 hL (frR (enR r d j 0 0) (iaR r d2 t)) hrB d2 t w2 (iaR r d j) (by omega) (by omega) hX hG (by omega) (by omega) (by omega)) (cwV 4 hTB (gd_V k_782 k_784 k_39 k_56 k_785) rfl rfl rfl (by decide +kernel) ⟨Nat.le_of_ble_eq_true rfl, Nat.le_of_ble_eq_true rfl⟩) hK hP hD hA [0, 1, 2, 3, 4, 5, 6, 7, 8, 9, 10] [] rfl rfl (by decide) rfl (by decide) (by decide) 0 rfl rfl rfl hl.1 rfl (Nat.le_of_ble_eq_true rfl) d_Mod_moves_234 ⟨Nat.zero_le _, Nat.zero_le _⟩ hS (fun H locs hP hD hS => ?_)
                      have hP : va_P D cl5 (wM g k L (enR (frR (enR r d j 0 0) (iaR r d2 t)) d2 t w2 (iaR r d j))) H := hP
                      have hD : va_D A (wM g k L (enR (frR (enR r d j 0 0) (iaR r d2 t)) d2 t w2 (iaR r d j))) := hD
                      refine lv_iconst (v := nI 0) hx hb d_Mod_moves_237 (by decide +kernel) ?_
                      have hP9 : va_P D cl5 (wM g k L ((mvR L r d w d2 w2).2)) H := (by unfold mvR; rw [if_pos h5, if_pos h24]; unfold m1R; rw [if_pos h43, if_neg hns, ej, nI_clamp (by omega)]; unfold m2R; rw [if_pos h63x, et, nI_clamp (by omega), if_pos h115, if_neg hn6, if_neg hnu]; exact hP)
                      have hD9 : va_D A (wM g k L ((mvR L r d w d2 w2).2)) := (by unfold mvR; rw [if_pos h5, if_pos h24]; unfold m1R; rw [if_pos h43, if_neg hns, ej, nI_clamp (by omega)]; unfold m2R; rw [if_pos h63x, et, nI_clamp (by omega), if_pos h115, if_neg hn6, if_neg hnu]; exact hD)
                      exact W.iret (v := nI 0) hx hb hr (fun tt9 ht9 hW9 => ⟨⟨_, (), rfl, (by unfold mvR; rw [if_pos h5, if_pos h24]; unfold m1R; rw [if_pos h43, if_neg hns, ej, nI_clamp (by omega)]; unfold m2R; rw [if_pos h63x, et, nI_clamp (by omega), if_pos h115, if_neg hn6, if_neg hnu]), ⟨by rw [ht9]; exact hP9, hD9⟩⟩, hS.F ht9⟩) hS.2.2 d_Mod_moves_238
                    · refine lv_iload hx hb d_Mod_moves_166 (lv_at hl 8 rfl) ?_
                      refine lv_iload hx hb d_Mod_moves_168 (lv_at hl 2 rfl) ?_
                      refine gz_icmp_ne (tgt := 176) hx hb d_Mod_moves_170 (by decide) (by omega) (by omega) (fun h170 => ?_) (fun h170 => ?_)
                      · refine lv_aload_n hx hb d_Mod_moves_176 rfl (lv_at hl 4 rfl) ?_
                        refine lv_iload hx hb d_Mod_moves_177 (lv_at hl 8 rfl) ?_
                        refine gz_roV (As := [.int (nI z)]) (rest := []) (wc := (wM g k L r)) ⟨hx, hb, hml, hown, hTB⟩ (c_Mod_parentOf l D g k L hL0 hL r hrB z (by omega) hok) (cwV 1 hTB (gd_V k_810 k_812 k_46 k_56 k_813) rfl rfl rfl (by decide +kernel) ⟨Nat.le_of_ble_eq_true rfl, Nat.le_of_ble_eq_true rfl⟩) hK hP [0, 1, 2, 3, 4, 5, 6, 7, 8, 9, 10] rfl 0 rfl rfl rfl hl.1 rfl (Nat.le_of_ble_eq_true rfl) d_Mod_moves_179 ⟨Nat.zero_le _, Nat.zero_le _⟩ hS (fun H locs hP hS => ?_)
                        refine lv_istore (lv' := [(9, .int (paR r z)), (8, .int (nI (iaR r d2 t))), (7, .int (nI t)), (6, .int (nI (iaR r d j))), (5, .int (nI j)), (0, .ref (g 20)), (1, .int (nI d)), (3, .int (nI d2)), (4, .int (nI w2))]) hx hb d_Mod_moves_182 hl (by decide) rfl (fun ls hl => ?_)
                        refine lv_goto (tgt := 151) hx hb d_Mod_moves_184 (by decide) ?_
                        have hs9 := up_s hz hia h170 (hue (nI_pos' (by omega)))
                        exact ih151 (m1 - 1, paR r z) _ _ _ (by have := hs9.1; first | omega | (dsimp only; omega)) ⟨hP, hD, hS, lv_sub hl [1, 2, 3, 4, 5, 6, 7, 8, 0] rfl, (by rcases Int32.lt_or_le (paR r z) 0 with q | q; exact Or.inl q; exact Or.inr (paR_of (Int32.not_lt.mpr q))), (fun _ => hs9.2.1), (by rw [← hug]; exact hs9.2.2)⟩
                      · have hyu : upG r (iaR r d j) 65 (nI d2) = true := by rw [← hug]; subst h170; exact up_y hia (hue (nI_pos' (by omega)))
                        refine lv_bipush (v := (-7)) hx hb d_Mod_moves_173 (by decide +kernel) ?_
                        have hP9 : va_P D cl5 (wM g k L ((mvR L r d w d2 w2).2)) H := (by unfold mvR; rw [if_pos h5, if_pos h24]; unfold m1R; rw [if_pos h43, if_neg hns, ej, nI_clamp (by omega)]; unfold m2R; rw [if_pos h63x, et, nI_clamp (by omega), if_pos h115, if_neg hn6, if_pos ⟨h163, hyu⟩]; exact hP)
                        have hD9 : va_D A (wM g k L ((mvR L r d w d2 w2).2)) := (by unfold mvR; rw [if_pos h5, if_pos h24]; unfold m1R; rw [if_pos h43, if_neg hns, ej, nI_clamp (by omega)]; unfold m2R; rw [if_pos h63x, et, nI_clamp (by omega), if_pos h115, if_neg hn6, if_pos ⟨h163, hyu⟩]; exact hD)
                        exact W.iret (v := (-7)) hx hb hr (fun tt9 ht9 hW9 => ⟨⟨_, (), rfl, (by unfold mvR; rw [if_pos h5, if_pos h24]; unfold m1R; rw [if_pos h43, if_neg hns, ej, nI_clamp (by omega)]; unfold m2R; rw [if_pos h63x, et, nI_clamp (by omega), if_pos h115, if_neg hn6, if_pos ⟨h163, hyu⟩]), ⟨by rw [ht9]; exact hP9, hD9⟩⟩, hS.F ht9⟩) hS.2.2 d_Mod_moves_175
                · refine lv_aload_n hx hb d_Mod_moves_136 rfl (lv_at hl 4 rfl) ?_
                  refine lv_iload hx hb d_Mod_moves_137 (lv_at hl 0 rfl) ?_
                  refine gz_roV (As := [.int (nI (iaR r d2 t))]) (rest := []) (wc := (wM g k L r)) ⟨hx, hb, hml, hown, hTB⟩ (c_Mod_isEmpty l D g k L hL0 hL r hrB (iaR r d2 t) (by omega) hX hG hS0 hW) (cwV 1 hTB (gd_V k_806 k_808 k_45 k_56 k_809) rfl rfl rfl (by decide +kernel) ⟨Nat.le_of_ble_eq_true rfl, Nat.le_of_ble_eq_true rfl⟩) hK hP [0, 1, 2, 3, 4, 5, 6, 7, 8, 9, 10] rfl 0 rfl rfl rfl hl.1 rfl (Nat.le_of_ble_eq_true rfl) d_Mod_moves_139 ⟨Nat.zero_le _, Nat.zero_le _⟩ hS (fun H locs hP hS => ?_)
                  refine gz_ifz_ne (tgt := 148) hx hb d_Mod_moves_142 (by decide) (fun h142 => ?_) (fun h142 => ?_)
                  · have hn6 : ¬ (rNd r (20 * iaR r d2 t) = 2 ∧ ieR r (iaR r d2 t) = false) := fun z => absurd (h142.symm.trans z.2) (by decide)
                    refine lv_iload_n hx hb d_Mod_moves_148 rfl (lv_at hl 7 rfl) ?_
                    refine lv_istore (lv' := [(9, .int (nI d2)), (8, .int (nI (iaR r d2 t))), (7, .int (nI t)), (6, .int (nI (iaR r d j))), (5, .int (nI j)), (0, .ref (g 20)), (1, .int (nI d)), (2, .int (nI w)), (3, .int (nI d2)), (4, .int (nI w2))]) hx hb d_Mod_moves_149 hl (by decide) rfl (fun ls hl => ?_)
                    refine gz_loop 151 (fun (zz : (Nat × Int32)) H locs ls => match zz with | (m1, x) => va_P D cl5 (wM g k L r) H ∧ va_D A (wM g k L r) ∧ va_S A s.heap H locs ∧ lv_has ls 10 [(8, .int (nI (iaR r d2 t))), (7, .int (nI t)), (6, .int (nI (iaR r d j))), (5, .int (nI j)), (0, .ref (g 20)), (1, .int (nI d)), (3, .int (nI d2)), (4, .int (nI w2)), (9, .int (x))] ∧ (x < 0 ∨ ∃ z, z < 64 ∧ x = nI z) ∧ (0 ≤ x → upE r (iaR r d j) m1 x = true) ∧ (upG r (iaR r d j) m1 x = upG r (iaR r d j) 65 (nI d2))) (fun (zz : (Nat × Int32)) => match zz with | (m1, x) => m1) (fun zz H locs ls hI ih151 => ?_) (65, nI d2) ⟨hP, hD, hS, lv_sub hl [1, 2, 3, 4, 5, 6, 8, 9, 0] rfl, (Or.inr ⟨d2, hd2, rfl⟩), (fun _ => hU h43 _ hia), rfl⟩
                    obtain ⟨m1, x⟩ := zz
                    obtain ⟨hP, hD, hS, hl, hx9, hue, hug⟩ := hI
                    refine lv_iload hx hb d_Mod_moves_151 (lv_at hl 8 rfl) ?_
                    refine lv_if_lt (tgt := 187) hx hb d_Mod_moves_153 (by decide) (fun h153 => ?_) (fun h153 => ?_)
                    · have hnu : ¬ (rNd r (20 * (iaR r d j)) = 2 ∧ upG r (iaR r d j) 65 (nI d2) = true) := fun z => absurd ((hug.trans z.2).symm.trans (up_n h153)) (by decide)
                      refine lv_aload_n hx hb d_Mod_moves_187 rfl (lv_at hl 4 rfl) ?_
                      refine lv_iload_n hx hb d_Mod_moves_188 rfl (lv_at hl 5 rfl) ?_
                      refine lv_iload hx hb d_Mod_moves_189 (lv_at hl 3 rfl) ?_
                      refine lv_iconst (v := nI 0) hx hb d_Mod_moves_191 (by decide +kernel) ?_
                      refine lv_iconst (v := nI 0) hx hb d_Mod_moves_192 (by decide +kernel) ?_
                      refine gz_muV (As := [.int (nI d), .int (nI j), .int (nI 0), .int (nI 0)]) (rest := []) (wc := (wM g k L r)) (w1 := (wM g k L (enR r d j 0 0))) (wr := []) ⟨hx, hb, hml, hown, hTB⟩ (c_Mod_enters l D g k L hL0 hL r hrB d j 0 0 (by omega) (by omega) hX hG (by omega) (by omega) (by omega)) (cwV 4 hTB (gd_V k_782 k_784 k_39 k_56 k_785) rfl rfl rfl (by decide +kernel) ⟨Nat.le_of_ble_eq_true rfl, Nat.le_of_ble_eq_true rfl⟩) hK hP hD hA [0, 1, 2, 3, 4, 5, 6, 7, 8, 9, 10] [] rfl rfl (by decide) rfl (by decide) (by decide) 0 rfl rfl rfl hl.1 rfl (Nat.le_of_ble_eq_true rfl) d_Mod_moves_193 ⟨Nat.zero_le _, Nat.zero_le _⟩ hS (fun H locs hP hD hS => ?_)
                      have hP : va_P D cl5 (wM g k L (enR r d j 0 0)) H := hP
                      have hD : va_D A (wM g k L (enR r d j 0 0)) := hD
                      have hok2 : okR L (enR r d j 0 0) := ok_en hok (by decide) (by decide)
                      have hrB := enR_B (d := d) (e := j) (w := 0) (i := 0) hrB (by decide) (by decide)
                      refine lv_iload hx hb d_Mod_moves_196 (lv_at hl 0 rfl) ?_
                      refine gz_if_ge (tgt := 220) hx hb d_Mod_moves_198 (by decide) (by omega) ?_
                      have hwf := hok2.1
                      refine lv_aload_n hx hb d_Mod_moves_220 rfl (lv_at hl 4 rfl) ?_
                      refine lv_iload hx hb d_Mod_moves_221 (lv_at hl 0 rfl) ?_
                      refine gz_muV (As := [.int (nI (iaR r d2 t))]) (rest := []) (wc := (wM g k L (enR r d j 0 0))) (w1 := (wM g k L (frR (enR r d j 0 0) (iaR r d2 t)))) (wr := []) ⟨hx, hb, hml, hown, hTB⟩ (c_Mod_frees l D g k L hL0 hL (enR r d j 0 0) hrB (iaR r d2 t) (by omega) hwf) (cwV 1 hTB (gd_V k_814 k_816 k_47 k_56 k_817) rfl rfl rfl (by decide +kernel) ⟨Nat.le_of_ble_eq_true rfl, Nat.le_of_ble_eq_true rfl⟩) hK hP hD hA [0, 1, 2, 3, 4, 5, 6, 7, 8, 9, 10] [] rfl rfl (by decide) rfl (by decide) (by decide) 0 rfl rfl rfl hl.1 rfl (Nat.le_of_ble_eq_true rfl) d_Mod_moves_223 ⟨Nat.zero_le _, Nat.zero_le _⟩ hS (fun H locs hP hD hS => ?_)
                      have hP : va_P D cl5 (wM g k L (frR (enR r d j 0 0) (iaR r d2 t))) H := hP
                      have hD : va_D A (wM g k L (frR (enR r d j 0 0) (iaR r d2 t))) := hD
                      have hbf : bsR (rNd (frR (enR r d j 0 0) (iaR r d2 t))) d2 = bsR (rNd r) d2 := fr_bs hia2 hd2 (fun z => hid2 z.symm) hok2.1 hrB
                      have hwf2 := (fr_wf hia2 hok2.1 hrB).1
                      have hrB := (fr_wf hia2 hok2.1 hrB).2
                      have hX := wf_X hwf2
                      have hG := wf_G hwf2 hL
                      refine lv_aload_n hx hb d_Mod_moves_226 rfl (lv_at hl 4 rfl) ?_
                      refine lv_iload_n hx hb d_Mod_moves_227 rfl (lv_at hl 6 rfl) ?_
                      refine lv_iload hx hb d_Mod_moves_228 (lv_at hl 1 rfl) ?_
                      refine lv_iload hx hb d_Mod_moves_230 (lv_at hl 7 rfl) ?_
                      refine lv_iload hx hb d_Mod_moves_232 (lv_at hl 2 rfl) ?_
                      refine gz_muV (As := [.int (nI d2), .int (nI t), .int (nI w2), .int (nI (iaR r d j))]) (rest := []) (wc := (wM g k L (frR (enR r d j 0 0) (iaR r d2 t)))) (w1 := (wM g k L (enR (frR (enR r d j 0 0) (iaR r d2 t)) d2 t w2 (iaR r d j)))) (wr := []) ⟨hx, hb, hml, hown, hTB⟩ (c_Mod_enters l D g k L hL0 hL (frR (enR r d j 0 0) (iaR r d2 t)) hrB d2 t w2 (iaR r d j) (by omega) (by omega) hX hG (by omega) (by omega) (by omega)) (cwV 4 hTB (gd_V k_782 k_784 k_39 k_56 k_785) rfl rfl rfl (by decide +kernel) ⟨Nat.le_of_ble_eq_true rfl, Nat.le_of_ble_eq_true rfl⟩) hK hP hD hA [0, 1, 2, 3, 4, 5, 6, 7, 8, 9, 10] [] rfl rfl (by decide) rfl (by decide) (by decide) 0 rfl rfl rfl hl.1 rfl (Nat.le_of_ble_eq_true rfl) d_Mod_moves_234 ⟨Nat.zero_le _, Nat.zero_le _⟩ hS (fun H locs hP hD hS => ?_)
                      have hP : va_P D cl5 (wM g k L (enR (frR (enR r d j 0 0) (iaR r d2 t)) d2 t w2 (iaR r d j))) H := hP
                      have hD : va_D A (wM g k L (enR (frR (enR r d j 0 0) (iaR r d2 t)) d2 t w2 (iaR r d j))) := hD
                      refine lv_iconst (v := nI 0) hx hb d_Mod_moves_237 (by decide +kernel) ?_
                      have hP9 : va_P D cl5 (wM g k L ((mvR L r d w d2 w2).2)) H := (by unfold mvR; rw [if_pos h5, if_pos h24]; unfold m1R; rw [if_pos h43, if_neg hns, ej, nI_clamp (by omega)]; unfold m2R; rw [if_pos h63x, et, nI_clamp (by omega), if_pos h115, if_neg hn6, if_neg hnu]; exact hP)
                      have hD9 : va_D A (wM g k L ((mvR L r d w d2 w2).2)) := (by unfold mvR; rw [if_pos h5, if_pos h24]; unfold m1R; rw [if_pos h43, if_neg hns, ej, nI_clamp (by omega)]; unfold m2R; rw [if_pos h63x, et, nI_clamp (by omega), if_pos h115, if_neg hn6, if_neg hnu]; exact hD)
                      exact W.iret (v := nI 0) hx hb hr (fun tt9 ht9 hW9 => ⟨⟨_, (), rfl, (by unfold mvR; rw [if_pos h5, if_pos h24]; unfold m1R; rw [if_pos h43, if_neg hns, ej, nI_clamp (by omega)]; unfold m2R; rw [if_pos h63x, et, nI_clamp (by omega), if_pos h115, if_neg hn6, if_neg hnu]), ⟨by rw [ht9]; exact hP9, hD9⟩⟩, hS.F ht9⟩) hS.2.2 d_Mod_moves_238
                    · obtain ⟨z, hz, rfl⟩ := hx9.resolve_left h153
                      refine lv_aload_n hx hb d_Mod_moves_156 rfl (lv_at hl 4 rfl) ?_
                      refine lv_iload hx hb d_Mod_moves_157 (lv_at hl 2 rfl) ?_
                      refine gz_roV (As := [.int (nI (iaR r d j))]) (rest := []) (wc := (wM g k L r)) ⟨hx, hb, hml, hown, hTB⟩ (c_Mod_kind l D g k L hL0 hL r hrB (iaR r d j) (by omega)) (cwV 1 hTB (gd_V k_734 k_736 k_27 k_56 k_737) rfl rfl rfl (by decide +kernel) ⟨Nat.le_of_ble_eq_true rfl, Nat.le_of_ble_eq_true rfl⟩) hK hP [0, 1, 2, 3, 4, 5, 6, 7, 8, 9, 10] rfl 0 rfl rfl rfl hl.1 rfl (Nat.le_of_ble_eq_true rfl) d_Mod_moves_159 ⟨Nat.zero_le _, Nat.zero_le _⟩ hS (fun H locs hP hS => ?_)
                      have := (hrB (20 * (iaR r d j))).2.1
                      refine lv_iconst (v := nI 2) hx hb d_Mod_moves_162 (by decide +kernel) ?_
                      refine gz_icmp_ne (tgt := 187) hx hb d_Mod_moves_163 (by decide) (by omega) (by omega) (fun h163 => ?_) (fun h163 => ?_)
                      · have hnu : ¬ (rNd r (20 * (iaR r d j)) = 2 ∧ upG r (iaR r d j) 65 (nI d2) = true) := fun z => h163 z.1
                        refine lv_aload_n hx hb d_Mod_moves_187 rfl (lv_at hl 4 rfl) ?_
                        refine lv_iload_n hx hb d_Mod_moves_188 rfl (lv_at hl 5 rfl) ?_
                        refine lv_iload hx hb d_Mod_moves_189 (lv_at hl 3 rfl) ?_
                        refine lv_iconst (v := nI 0) hx hb d_Mod_moves_191 (by decide +kernel) ?_
                        refine lv_iconst (v := nI 0) hx hb d_Mod_moves_192 (by decide +kernel) ?_
                        refine gz_muV (As := [.int (nI d), .int (nI j), .int (nI 0), .int (nI 0)]) (rest := []) (wc := (wM g k L r)) (w1 := (wM g k L (enR r d j 0 0))) (wr := []) ⟨hx, hb, hml, hown, hTB⟩ (c_Mod_enters l D g k L hL0 hL r hrB d j 0 0 (by omega) (by omega) hX hG (by omega) (by omega) (by omega)) (cwV 4 hTB (gd_V k_782 k_784 k_39 k_56 k_785) rfl rfl rfl (by decide +kernel) ⟨Nat.le_of_ble_eq_true rfl, Nat.le_of_ble_eq_true rfl⟩) hK hP hD hA [0, 1, 2, 3, 4, 5, 6, 7, 8, 9, 10] [] rfl rfl (by decide) rfl (by decide) (by decide) 0 rfl rfl rfl hl.1 rfl (Nat.le_of_ble_eq_true rfl) d_Mod_moves_193 ⟨Nat.zero_le _, Nat.zero_le _⟩ hS (fun H locs hP hD hS => ?_)
                        have hP : va_P D cl5 (wM g k L (enR r d j 0 0)) H := hP
                        have hD : va_D A (wM g k L (enR r d j 0 0)) := hD
                        have hok2 : okR L (enR r d j 0 0) := ok_en hok (by decide) (by decide)
                        have hrB := enR_B (d := d) (e := j) (w := 0) (i := 0) hrB (by decide) (by decide)
                        refine lv_iload hx hb d_Mod_moves_196 (lv_at hl 0 rfl) ?_
                        refine gz_if_ge (tgt := 220) hx hb d_Mod_moves_198 (by decide) (by omega) ?_
                        have hwf := hok2.1
                        refine lv_aload_n hx hb d_Mod_moves_220 rfl (lv_at hl 4 rfl) ?_
                        refine lv_iload hx hb d_Mod_moves_221 (lv_at hl 0 rfl) ?_
                        refine gz_muV (As := [.int (nI (iaR r d2 t))]) (rest := []) (wc := (wM g k L (enR r d j 0 0))) (w1 := (wM g k L (frR (enR r d j 0 0) (iaR r d2 t)))) (wr := []) ⟨hx, hb, hml, hown, hTB⟩ (c_Mod_frees l D g k L hL0 hL (enR r d j 0 0) hrB (iaR r d2 t) (by omega) hwf) (cwV 1 hTB (gd_V k_814 k_816 k_47 k_56 k_817) rfl rfl rfl (by decide +kernel) ⟨Nat.le_of_ble_eq_true rfl, Nat.le_of_ble_eq_true rfl⟩) hK hP hD hA [0, 1, 2, 3, 4, 5, 6, 7, 8, 9, 10] [] rfl rfl (by decide) rfl (by decide) (by decide) 0 rfl rfl rfl hl.1 rfl (Nat.le_of_ble_eq_true rfl) d_Mod_moves_223 ⟨Nat.zero_le _, Nat.zero_le _⟩ hS (fun H locs hP hD hS => ?_)
                        have hP : va_P D cl5 (wM g k L (frR (enR r d j 0 0) (iaR r d2 t))) H := hP
                        have hD : va_D A (wM g k L (frR (enR r d j 0 0) (iaR r d2 t))) := hD
                        have hbf : bsR (rNd (frR (enR r d j 0 0) (iaR r d2 t))) d2 = bsR (rNd r) d2 := fr_bs hia2 hd2 (fun z => hid2 z.symm) hok2.1 hrB
                        have hwf2 := (fr_wf hia2 hok2.1 hrB).1
                        have hrB := (fr_wf hia2 hok2.1 hrB).2
                        have hX := wf_X hwf2
                        have hG := wf_G hwf2 hL
                        refine lv_aload_n hx hb d_Mod_moves_226 rfl (lv_at hl 4 rfl) ?_
                        refine lv_iload_n hx hb d_Mod_moves_227 rfl (lv_at hl 6 rfl) ?_
                        refine lv_iload hx hb d_Mod_moves_228 (lv_at hl 1 rfl) ?_
                        refine lv_iload hx hb d_Mod_moves_230 (lv_at hl 7 rfl) ?_
                        refine lv_iload hx hb d_Mod_moves_232 (lv_at hl 2 rfl) ?_
                        refine gz_muV (As := [.int (nI d2), .int (nI t), .int (nI w2), .int (nI (iaR r d j))]) (rest := []) (wc := (wM g k L (frR (enR r d j 0 0) (iaR r d2 t)))) (w1 := (wM g k L (enR (frR (enR r d j 0 0) (iaR r d2 t)) d2 t w2 (iaR r d j)))) (wr := []) ⟨hx, hb, hml, hown, hTB⟩ (c_Mod_enters l D g k L hL0 hL (frR (enR r d j 0 0) (iaR r d2 t)) hrB d2 t w2 (iaR r d j) (by omega) (by omega) hX hG (by omega) (by omega) (by omega)) (cwV 4 hTB (gd_V k_782 k_784 k_39 k_56 k_785) rfl rfl rfl (by decide +kernel) ⟨Nat.le_of_ble_eq_true rfl, Nat.le_of_ble_eq_true rfl⟩) hK hP hD hA [0, 1, 2, 3, 4, 5, 6, 7, 8, 9, 10] [] rfl rfl (by decide) rfl (by decide) (by decide) 0 rfl rfl rfl hl.1 rfl (Nat.le_of_ble_eq_true rfl) d_Mod_moves_234 ⟨Nat.zero_le _, Nat.zero_le _⟩ hS (fun H locs hP hD hS => ?_)
                        have hP : va_P D cl5 (wM g k L (enR (frR (enR r d j 0 0) (iaR r d2 t)) d2 t w2 (iaR r d j))) H := hP
                        have hD : va_D A (wM g k L (enR (frR (enR r d j 0 0) (iaR r d2 t)) d2 t w2 (iaR r d j))) := hD
                        refine lv_iconst (v := nI 0) hx hb d_Mod_moves_237 (by decide +kernel) ?_
                        have hP9 : va_P D cl5 (wM g k L ((mvR L r d w d2 w2).2)) H := (by unfold mvR; rw [if_pos h5, if_pos h24]; unfold m1R; rw [if_pos h43, if_neg hns, ej, nI_clamp (by omega)]; unfold m2R; rw [if_pos h63x, et, nI_clamp (by omega), if_pos h115, if_neg hn6, if_neg hnu]; exact hP)
                        have hD9 : va_D A (wM g k L ((mvR L r d w d2 w2).2)) := (by unfold mvR; rw [if_pos h5, if_pos h24]; unfold m1R; rw [if_pos h43, if_neg hns, ej, nI_clamp (by omega)]; unfold m2R; rw [if_pos h63x, et, nI_clamp (by omega), if_pos h115, if_neg hn6, if_neg hnu]; exact hD)
                        exact W.iret (v := nI 0) hx hb hr (fun tt9 ht9 hW9 => ⟨⟨_, (), rfl, (by unfold mvR; rw [if_pos h5, if_pos h24]; unfold m1R; rw [if_pos h43, if_neg hns, ej, nI_clamp (by omega)]; unfold m2R; rw [if_pos h63x, et, nI_clamp (by omega), if_pos h115, if_neg hn6, if_neg hnu]), ⟨by rw [ht9]; exact hP9, hD9⟩⟩, hS.F ht9⟩) hS.2.2 d_Mod_moves_238
                      · refine lv_iload hx hb d_Mod_moves_166 (lv_at hl 8 rfl) ?_
                        refine lv_iload hx hb d_Mod_moves_168 (lv_at hl 2 rfl) ?_
                        refine gz_icmp_ne (tgt := 176) hx hb d_Mod_moves_170 (by decide) (by omega) (by omega) (fun h170 => ?_) (fun h170 => ?_)
                        · refine lv_aload_n hx hb d_Mod_moves_176 rfl (lv_at hl 4 rfl) ?_
                          refine lv_iload hx hb d_Mod_moves_177 (lv_at hl 8 rfl) ?_
                          refine gz_roV (As := [.int (nI z)]) (rest := []) (wc := (wM g k L r)) ⟨hx, hb, hml, hown, hTB⟩ (c_Mod_parentOf l D g k L hL0 hL r hrB z (by omega) hok) (cwV 1 hTB (gd_V k_810 k_812 k_46 k_56 k_813) rfl rfl rfl (by decide +kernel) ⟨Nat.le_of_ble_eq_true rfl, Nat.le_of_ble_eq_true rfl⟩) hK hP [0, 1, 2, 3, 4, 5, 6, 7, 8, 9, 10] rfl 0 rfl rfl rfl hl.1 rfl (Nat.le_of_ble_eq_true rfl) d_Mod_moves_179 ⟨Nat.zero_le _, Nat.zero_le _⟩ hS (fun H locs hP hS => ?_)
                          refine lv_istore (lv' := [(9, .int (paR r z)), (8, .int (nI (iaR r d2 t))), (7, .int (nI t)), (6, .int (nI (iaR r d j))), (5, .int (nI j)), (0, .ref (g 20)), (1, .int (nI d)), (3, .int (nI d2)), (4, .int (nI w2))]) hx hb d_Mod_moves_182 hl (by decide) rfl (fun ls hl => ?_)
                          refine lv_goto (tgt := 151) hx hb d_Mod_moves_184 (by decide) ?_
                          have hs9 := up_s hz hia h170 (hue (nI_pos' (by omega)))
                          exact ih151 (m1 - 1, paR r z) _ _ _ (by have := hs9.1; first | omega | (dsimp only; omega)) ⟨hP, hD, hS, lv_sub hl [1, 2, 3, 4, 5, 6, 7, 8, 0] rfl, (by rcases Int32.lt_or_le (paR r z) 0 with q | q; exact Or.inl q; exact Or.inr (paR_of (Int32.not_lt.mpr q))), (fun _ => hs9.2.1), (by rw [← hug]; exact hs9.2.2)⟩
                        · have hyu : upG r (iaR r d j) 65 (nI d2) = true := by rw [← hug]; subst h170; exact up_y hia (hue (nI_pos' (by omega)))
                          refine lv_bipush (v := (-7)) hx hb d_Mod_moves_173 (by decide +kernel) ?_
                          have hP9 : va_P D cl5 (wM g k L ((mvR L r d w d2 w2).2)) H := (by unfold mvR; rw [if_pos h5, if_pos h24]; unfold m1R; rw [if_pos h43, if_neg hns, ej, nI_clamp (by omega)]; unfold m2R; rw [if_pos h63x, et, nI_clamp (by omega), if_pos h115, if_neg hn6, if_pos ⟨h163, hyu⟩]; exact hP)
                          have hD9 : va_D A (wM g k L ((mvR L r d w d2 w2).2)) := (by unfold mvR; rw [if_pos h5, if_pos h24]; unfold m1R; rw [if_pos h43, if_neg hns, ej, nI_clamp (by omega)]; unfold m2R; rw [if_pos h63x, et, nI_clamp (by omega), if_pos h115, if_neg hn6, if_pos ⟨h163, hyu⟩]; exact hD)
                          exact W.iret (v := (-7)) hx hb hr (fun tt9 ht9 hW9 => ⟨⟨_, (), rfl, (by unfold mvR; rw [if_pos h5, if_pos h24]; unfold m1R; rw [if_pos h43, if_neg hns, ej, nI_clamp (by omega)]; unfold m2R; rw [if_pos h63x, et, nI_clamp (by omega), if_pos h115, if_neg hn6, if_pos ⟨h163, hyu⟩]), ⟨by rw [ht9]; exact hP9, hD9⟩⟩, hS.F ht9⟩) hS.2.2 d_Mod_moves_175
                  · refine lv_bipush (v := (-6)) hx hb d_Mod_moves_145 (by decide +kernel) ?_
                    have hP9 : va_P D cl5 (wM g k L ((mvR L r d w d2 w2).2)) H := (by unfold mvR; rw [if_pos h5, if_pos h24]; unfold m1R; rw [if_pos h43, if_neg hns, ej, nI_clamp (by omega)]; unfold m2R; rw [if_pos h63x, et, nI_clamp (by omega), if_pos h115, if_pos ⟨h133, h142⟩]; exact hP)
                    have hD9 : va_D A (wM g k L ((mvR L r d w d2 w2).2)) := (by unfold mvR; rw [if_pos h5, if_pos h24]; unfold m1R; rw [if_pos h43, if_neg hns, ej, nI_clamp (by omega)]; unfold m2R; rw [if_pos h63x, et, nI_clamp (by omega), if_pos h115, if_pos ⟨h133, h142⟩]; exact hD)
                    exact W.iret (v := (-6)) hx hb hr (fun tt9 ht9 hW9 => ⟨⟨_, (), rfl, (by unfold mvR; rw [if_pos h5, if_pos h24]; unfold m1R; rw [if_pos h43, if_neg hns, ej, nI_clamp (by omega)]; unfold m2R; rw [if_pos h63x, et, nI_clamp (by omega), if_pos h115, if_pos ⟨h133, h142⟩]), ⟨by rw [ht9]; exact hP9, hD9⟩⟩, hS.F ht9⟩) hS.2.2 d_Mod_moves_147
              · refine lv_bipush (v := (-5)) hx hb d_Mod_moves_118 (by decide +kernel) ?_
                have hP9 : va_P D cl5 (wM g k L ((mvR L r d w d2 w2).2)) H := (by unfold mvR; rw [if_pos h5, if_pos h24]; unfold m1R; rw [if_pos h43, if_neg hns, ej, nI_clamp (by omega)]; unfold m2R; rw [if_pos h63x, et, nI_clamp (by omega), if_neg h115]; exact hP)
                have hD9 : va_D A (wM g k L ((mvR L r d w d2 w2).2)) := (by unfold mvR; rw [if_pos h5, if_pos h24]; unfold m1R; rw [if_pos h43, if_neg hns, ej, nI_clamp (by omega)]; unfold m2R; rw [if_pos h63x, et, nI_clamp (by omega), if_neg h115]; exact hD)
                exact W.iret (v := (-5)) hx hb hr (fun tt9 ht9 hW9 => ⟨⟨_, (), rfl, (by unfold mvR; rw [if_pos h5, if_pos h24]; unfold m1R; rw [if_pos h43, if_neg hns, ej, nI_clamp (by omega)]; unfold m2R; rw [if_pos h63x, et, nI_clamp (by omega), if_neg h115]), ⟨by rw [ht9]; exact hP9, hD9⟩⟩, hS.F ht9⟩) hS.2.2 d_Mod_moves_120
            · refine lv_iconst (v := nI 0) hx hb d_Mod_moves_78 (by decide +kernel) ?_
              have hP9 : va_P D cl5 (wM g k L ((mvR L r d w d2 w2).2)) H := (by unfold mvR; rw [if_pos h5, if_pos h24]; unfold m1R; rw [if_pos h43, if_pos ⟨h63x, h68, by rw [et, ej, h75]⟩]; exact hP)
              have hD9 : va_D A (wM g k L ((mvR L r d w d2 w2).2)) := (by unfold mvR; rw [if_pos h5, if_pos h24]; unfold m1R; rw [if_pos h43, if_pos ⟨h63x, h68, by rw [et, ej, h75]⟩]; exact hD)
              exact W.iret (v := nI 0) hx hb hr (fun tt9 ht9 hW9 => ⟨⟨_, (), rfl, (by unfold mvR; rw [if_pos h5, if_pos h24]; unfold m1R; rw [if_pos h43, if_pos ⟨h63x, h68, by rw [et, ej, h75]⟩]), ⟨by rw [ht9]; exact hP9, hD9⟩⟩, hS.F ht9⟩) hS.2.2 d_Mod_moves_79
      · refine lv_aload_n hx hb d_Mod_moves_46 rfl (lv_at hl 2 rfl) ?_
        refine lv_iload_n hx hb d_Mod_moves_47 rfl (lv_at hl 5 rfl) ?_
        refine gz_roV (As := [.int (nI d2)]) (rest := []) (wc := (wM g k L r)) ⟨hx, hb, hml, hown, hTB⟩ (c_Mod_badDirectory l D g k L hL0 hL r hrB d2 (by omega)) (cwV 1 hTB (gd_V k_730 k_732 k_26 k_56 k_733) rfl rfl rfl (by decide +kernel) ⟨Nat.le_of_ble_eq_true rfl, Nat.le_of_ble_eq_true rfl⟩) hK hP [0, 1, 2, 3, 4, 5, 6, 7, 8, 9, 10] rfl 0 rfl rfl rfl hl.1 rfl (Nat.le_of_ble_eq_true rfl) d_Mod_moves_48 ⟨Nat.zero_le _, Nat.zero_le _⟩ hS (fun H locs hP hS => ?_)
        have hP9 : va_P D cl5 (wM g k L ((mvR L r d w d2 w2).2)) H := (by unfold mvR; rw [if_pos h5, if_pos h24]; unfold m1R; rw [if_neg h43]; exact hP)
        have hD9 : va_D A (wM g k L ((mvR L r d w d2 w2).2)) := (by unfold mvR; rw [if_pos h5, if_pos h24]; unfold m1R; rw [if_neg h43]; exact hD)
        exact W.iret (v := bdR r d2) hx hb hr (fun tt9 ht9 hW9 => ⟨⟨_, (), rfl, (by unfold mvR; rw [if_pos h5, if_pos h24]; unfold m1R; rw [if_neg h43]), ⟨by rw [ht9]; exact hP9, hD9⟩⟩, hS.F ht9⟩) hS.2.2 d_Mod_moves_51
    · refine lv_iconst (v := (-1)) hx hb d_Mod_moves_27 (by decide +kernel) ?_
      have hP9 : va_P D cl5 (wM g k L ((mvR L r d w d2 w2).2)) H := (by unfold mvR; rw [if_pos h5, if_neg h24]; exact hP)
      have hD9 : va_D A (wM g k L ((mvR L r d w d2 w2).2)) := (by unfold mvR; rw [if_pos h5, if_neg h24]; exact hD)
      exact W.iret (v := (-1)) hx hb hr (fun tt9 ht9 hW9 => ⟨⟨_, (), rfl, (by unfold mvR; rw [if_pos h5, if_neg h24]), ⟨by rw [ht9]; exact hP9, hD9⟩⟩, hS.F ht9⟩) hS.2.2 d_Mod_moves_28
  · refine lv_aload_n hx hb d_Mod_moves_8 rfl (lv_at hl 0 rfl) ?_
    refine lv_iload_n hx hb d_Mod_moves_9 rfl (lv_at hl 1 rfl) ?_
    refine gz_roV (As := [.int (nI d)]) (rest := []) (wc := (wM g k L r)) ⟨hx, hb, hml, hown, hTB⟩ (c_Mod_badDirectory l D g k L hL0 hL r hrB d (by omega)) (cwV 1 hTB (gd_V k_730 k_732 k_26 k_56 k_733) rfl rfl rfl (by decide +kernel) ⟨Nat.le_of_ble_eq_true rfl, Nat.le_of_ble_eq_true rfl⟩) hK hP [0, 1, 2, 3, 4, 5, 6, 7, 8, 9, 10] rfl 0 rfl rfl rfl hl.1 rfl (Nat.le_of_ble_eq_true rfl) d_Mod_moves_10 ⟨Nat.zero_le _, Nat.zero_le _⟩ hS (fun H locs hP hS => ?_)
    have hP9 : va_P D cl5 (wM g k L ((mvR L r d w d2 w2).2)) H := (by unfold mvR; rw [if_neg h5]; exact hP)
    have hD9 : va_D A (wM g k L ((mvR L r d w d2 w2).2)) := (by unfold mvR; rw [if_neg h5]; exact hD)
    exact W.iret (v := bdR r d) hx hb hr (fun tt9 ht9 hW9 => ⟨⟨_, (), rfl, (by unfold mvR; rw [if_neg h5]), ⟨by rw [ht9]; exact hP9, hD9⟩⟩, hS.F ht9⟩) hS.2.2 d_Mod_moves_13
