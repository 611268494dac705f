/-! BYTES behind the Disk's writes; the class's bytes against the reference's numbers. -/
theorem byt_up (a : Nat → Int64) (i : Nat) (w : Int64) (p : Nat) : byt (va_up a i w) p = if p / 8 = i then nn w / 2 ^ (p % 8 * 8) % 256 else byt a p := by
  unfold byt va_up
  by_cases h : p / 8 = i
  · rw [if_pos h, if_pos h]
  · rw [if_neg h, if_neg h]
theorem stB_com (u : DSt) (q : Nat) (v : Int32) : dCom (stB u q v) = dCom u := tch_com u (q / 64)
theorem stB_byt (u : DSt) (q : Nat) (v : Int32) (p : Nat) : byt (dNow (stB u q v)) p = if p = q then v.toBitVec.toNat % 256 else byt (dNow u) p := by
  show byt (va_up (dNow u) (q / 8) (stL (dNow u (q / 8)) (q % 8 * 8) v)) p = _
  rw [byt_up]
  by_cases h : p / 8 = q / 8
  · rw [if_pos h, stL_byt _ (by omega) (by omega)]
    by_cases h2 : p % 8 = q % 8
    · rw [if_pos h2, if_pos (by omega)]
    · rw [if_neg h2, if_neg (by omega)]; unfold byt; rw [h]
  · rw [if_neg h, if_neg (by omega)]
theorem stB_word (u : DSt) (q : Nat) (v : Int32) {j : Nat} (hj : j ≠ q / 8) : dNow (stB u q v) j = dNow u j := va_up_ne _ _ hj
theorem nI_tn {x : Nat} (h : x < 4294967296) : (nI x).toBitVec.toNat = x := by
  show (BitVec.ofNat 32 x).toNat = x
  rw [BitVec.toNat_ofNat, Nat.mod_eq_of_lt h]
theorem cpB_byt (f g : Nat → Int64) (b p : Nat) : byt (cpB f g b) p = if p / 64 = b then byt f p else byt g p := by
  unfold byt cpB va_cpy
  by_cases h : p / 64 = b
  · rw [if_pos h, if_pos (by omega)]
    rw [show b * 8 + (p / 8 - b * 8) = p / 8 by omega]
  · rw [if_neg h, if_neg (by omega)]
theorem zrB_byt (f : Nat → Int64) (b p : Nat) : byt (zrB f b 8) p = if p / 64 = b then 0 else byt f p := by
  unfold byt zrB
  by_cases h : p / 64 = b
  · rw [if_pos h, if_pos (by omega), show (0 : Int64).toBitVec.toNat = 0 from rfl, Nat.zero_div]
  · rw [if_neg h, if_neg (by omega)]
/-- the class's bytes a, its committed ones com, against: h the inodes' bytes, ow the owners, nw the bytes of taken blocks -/
def SimH (L : Nat) (a com : Nat → Int64) (h : Nat → Nat → Nat) (ow nw : Nat → Nat) : Prop :=
  (∀ p, p < 1600 → byt a p = byt com p) ∧ (∀ i, i < 64 → ∀ k, k < 32 → byt a (1600 + 32 * i + k) = h i k) ∧ (∀ n, n < 1024 → (nn (a (456 + n / 64))).testBit (n % 64) = decide (n < L ∧ 0 < ow n)) ∧
  (∀ b, 59 ≤ b → b < L → ∀ c, c < 64 → byt a (64 * b + c) = if ow b = 0 then byt com (64 * b + c) else nw (64 * b + c))
def up2 (h : Nat → Nat → Nat) (i k v : Nat) : Nat → Nat → Nat := fun a b => if a = i ∧ b = k then v else h a b
theorem S_put {L : Nat} {u : DSt} {h : Nat → Nat → Nat} {ow nw : Nat → Nat} {b c v : Nat} (S : SimH L (dNow u) (dCom u) h ow nw) (hb : 59 ≤ b) (ho : ow b ≠ 0) (hc : c < 64) (hv : v < 256) :
    SimH L (dNow (stB u (64 * b + c) (nI v))) (dCom (stB u (64 * b + c) (nI v))) h ow (va_up nw (64 * b + c) v) := by
  obtain ⟨s1, s2, s3, s4⟩ := S
  rw [stB_com]
  refine ⟨fun p hp => ?_, fun i hi k hk => ?_, fun n hn => ?_, fun b' hb' hL c' hc' => ?_⟩
  · rw [stB_byt, if_neg (by omega)]; exact s1 p hp
  · rw [stB_byt, if_neg (by omega)]; exact s2 i hi k hk
  · rw [stB_word _ _ _ (by omega)]; exact s3 n hn
  · rw [stB_byt, nI_tn (by omega)]
    by_cases e : 64 * b' + c' = 64 * b + c
    · have e1 : b' = b := by omega
      rw [if_pos e, e1, if_neg ho, show 64 * b + c' = 64 * b + c by omega, va_up_self]; omega
    · rw [if_neg e, s4 b' hb' hL c' hc', va_up_ne _ _ e]
theorem S_ino {L : Nat} {u : DSt} {h : Nat → Nat → Nat} {ow nw : Nat → Nat} {i k : Nat} {v : Int32} (S : SimH L (dNow u) (dCom u) h ow nw) (hi : i < 64) (hk : k < 32) :
    SimH L (dNow (stB u (1600 + 32 * i + k) v)) (dCom (stB u (1600 + 32 * i + k) v)) (up2 h i k (v.toBitVec.toNat % 256)) ow nw := by
  obtain ⟨s1, s2, s3, s4⟩ := S
  rw [stB_com]
  refine ⟨fun p hp => ?_, fun i' hi' k' hk' => ?_, fun n hn => ?_, fun b' hb' hL c' hc' => ?_⟩
  · rw [stB_byt, if_neg (by omega)]; exact s1 p hp
  · rw [stB_byt]; unfold up2
    by_cases e : i' = i ∧ k' = k
    · rw [if_pos e, if_pos (by omega)]
    · rw [if_neg e, if_neg (by omega)]; exact s2 i' hi' k' hk'
  · rw [stB_word _ _ _ (by omega)]; exact s3 n hn
  · rw [stB_byt, if_neg (by omega)]; exact s4 b' hb' hL c' hc'
/-- a map bit flipped: the bytes of other blocks stay -/
theorem flp_word (u : DSt) (b : Nat) {j : Nat} (hj : j ≠ 456 + b / 64) : dNow (flp u b) j = dNow u j := va_up_ne _ _ hj
theorem flp_byt (u : DSt) {b p : Nat} (hb : b < 1024) (hp : p < 3648 ∨ 3776 ≤ p) : byt (dNow (flp u b)) p = byt (dNow u) p := by
  unfold byt; rw [flp_word _ _ (by omega)]
theorem flp_com (u : DSt) (b : Nat) : dCom (flp u b) = dCom u := tch_com u _
theorem flp_map (u : DSt) {b n : Nat} (hn : n < 1024) : (nn (dNow (flp u b) (456 + n / 64))).testBit (n % 64) = ((nn (dNow u (456 + n / 64))).testBit (n % 64) ^^ decide (n = b)) := by
  show (nn (va_up (dNow u) (456 + b / 64) _ (456 + n / 64))).testBit (n % 64) = _
  by_cases h : n / 64 = b / 64
  · rw [h, va_up_self, flp_bit _ (by omega)]
    congr 1
    by_cases e : n = b
    · rw [decide_eq_true e, decide_eq_true (by omega)]
    · rw [decide_eq_false e, decide_eq_false (by omega)]
  · rw [va_up_ne _ _ (by omega), decide_eq_false (show ¬ n = b from fun e => h (by rw [e])), Bool.xor_false]
theorem S_take {L : Nat} {u : DSt} {h : Nat → Nat → Nat} {ow nw : Nat → Nat} {b x : Nat} (S : SimH L (dNow u) (dCom u) h ow nw) (hb : 59 ≤ b) (hL : b < L) (hLL : L ≤ 768) (ho : ow b = 0) (hx : 0 < x) :
    SimH L (dNow (tkN u b)) (dCom (tkN u b)) h (va_up ow b x) (zrM nw b 64) := by
  obtain ⟨s1, s2, s3, s4⟩ := S
  have e1 : dCom (tkN u b) = dCom u := by
    show dCom (flp (sNow (tch u b) _) b) = _
    rw [flp_com]; exact tch_com u b
  have e2 : ∀ p, p < 3648 ∨ 3776 ≤ p → byt (dNow (tkN u b)) p = if p / 64 = b then 0 else byt (dNow u) p := fun p hp => by
    show byt (dNow (flp (sNow (tch u b) (zrB (dNow u) b 8)) b)) p = _
    rw [flp_byt _ (by omega) hp]; exact zrB_byt _ _ _
  rw [e1]
  refine ⟨fun p hp => ?_, fun i hi k hk => ?_, fun n hn => ?_, fun b' hb' hL' c' hc' => ?_⟩
  · rw [e2 _ (by omega), if_neg (by omega)]; exact s1 p hp
  · rw [e2 _ (by omega), if_neg (by omega)]; exact s2 i hi k hk
  · show (nn (dNow (flp (sNow (tch u b) (zrB (dNow u) b 8)) b) (456 + n / 64))).testBit (n % 64) = _
    rw [flp_map _ hn]
    have : dNow (sNow (tch u b) (zrB (dNow u) b 8)) (456 + n / 64) = dNow u (456 + n / 64) := by
      show zrB (dNow u) b 8 (456 + n / 64) = _
      unfold zrB; rw [if_neg (by omega)]
    rw [this, s3 n hn]
    by_cases e : n = b
    · subst e; rw [va_up_self, decide_eq_true rfl, decide_eq_false (by omega), decide_eq_true ⟨hL, hx⟩]; rfl
    · rw [va_up_ne _ _ e, decide_eq_false e, Bool.xor_false]
  · rw [e2 _ (by omega), show (64 * b' + c') / 64 = b' by omega]
    unfold zrM
    by_cases e : b' = b
    · subst e; rw [if_pos rfl, va_up_self, if_neg (by omega), if_pos (by omega)]
    · rw [if_neg e, va_up_ne _ _ e, s4 b' hb' hL' c' hc', if_neg (show ¬ (64 * b ≤ 64 * b' + c' ∧ 64 * b' + c' < 64 * b + 64) by omega)]
theorem S_give {L : Nat} {u : DSt} {h : Nat → Nat → Nat} {ow nw : Nat → Nat} {b : Nat} (S : SimH L (dNow u) (dCom u) h ow nw) (hb : 59 ≤ b) (hL : b < L) (hLL : L ≤ 768) (ho : ow b ≠ 0) :
    SimH L (dNow (gvN u b)) (dCom (gvN u b)) h (va_up ow b 0) nw := by
  obtain ⟨s1, s2, s3, s4⟩ := S
  have e1 : dCom (gvN u b) = dCom u := by
    show dCom (flp (sNow (tch u b) _) b) = _
    rw [flp_com]; exact tch_com u b
  have e2 : ∀ p, p < 3648 ∨ 3776 ≤ p → byt (dNow (gvN u b)) p = if p / 64 = b then byt (dCom u) p else byt (dNow u) p := fun p hp => by
    show byt (dNow (flp (sNow (tch u b) (cpB (dCom u) (dNow u) b)) b)) p = _
    rw [flp_byt _ (by omega) hp]; exact cpB_byt _ _ _ _
  rw [e1]
  refine ⟨fun p hp => ?_, fun i hi k hk => ?_, fun n hn => ?_, fun b' hb' hL' c' hc' => ?_⟩
  · rw [e2 _ (by omega), if_neg (by omega)]; exact s1 p hp
  · rw [e2 _ (by omega), if_neg (by omega)]; exact s2 i hi k hk
  · show (nn (dNow (flp (sNow (tch u b) (cpB (dCom u) (dNow u) b)) b) (456 + n / 64))).testBit (n % 64) = _
    rw [flp_map _ hn]
    have : dNow (sNow (tch u b) (cpB (dCom u) (dNow u) b)) (456 + n / 64) = dNow u (456 + n / 64) := by
      show cpB (dCom u) (dNow u) b (456 + n / 64) = _
      unfold cpB va_cpy; rw [if_neg (by omega)]
    rw [this, s3 n hn]
    by_cases e : n = b
    · subst e; rw [va_up_self, decide_eq_true rfl, decide_eq_true ⟨hL, Nat.pos_of_ne_zero ho⟩, decide_eq_false (by omega)]; rfl
    · rw [va_up_ne _ _ e, decide_eq_false e, Bool.xor_false]
  · rw [e2 _ (by omega), show (64 * b' + c') / 64 = b' by omega]
    by_cases e : b' = b
    · subst e; rw [if_pos rfl, va_up_self, if_pos rfl]
    · rw [if_neg e, va_up_ne _ _ e, s4 b' hb' hL' c' hc']
/-- a block is free in the map just where nobody owns it -/
theorem S_free {L : Nat} {a com : Nat → Int64} {h : Nat → Nat → Nat} {ow nw : Nat → Nat} {b : Nat} (S : SimH L a com h ow nw) (hL : b < L) (hLL : L ≤ 768) : frN a b = decide (ow b = 0) := by
  rw [frN_bit, S.2.2.1 b (by omega)]
  by_cases e : ow b = 0
  · rw [decide_eq_true e, decide_eq_false (by omega)]; rfl
  · rw [decide_eq_false e, decide_eq_true ⟨hL, Nat.pos_of_ne_zero e⟩]; rfl
