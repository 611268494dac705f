theorem cp_B {f h : Nat → Nat} {n : Nat} (hf : ∀ q, f q < 65536) (hh : ∀ q, h q < 65536) (q : Nat) : cpM f h n q < 65536 := by
  unfold cpM; split
  · exact hf q
  · exact hh q
theorem rBc_nd {r : RSt} {f : Nat → Nat} {n : Nat} (h : rB r) (hf : ∀ q, f q < 65536) : rB (qNd r (cpM f (rNd r) n)) := fun q => ⟨(h q).1, cp_B hf (fun q => (h q).2.1) q, (h q).2.2.1, (h q).2.2.2.1, (h q).2.2.2.2.1, (h q).2.2.2.2.2.1, (h q).2.2.2.2.2.2.1, (h q).2.2.2.2.2.2.2.1, (h q).2.2.2.2.2.2.2.2.1, (h q).2.2.2.2.2.2.2.2.2⟩
theorem rBc_ow {r : RSt} {f : Nat → Nat} {n : Nat} (h : rB r) (hf : ∀ q, f q < 65536) : rB (qOw r (cpM f (rOw r) n)) := fun q => ⟨(h q).1, (h q).2.1, cp_B hf (fun q => (h q).2.2.1) q, (h q).2.2.2.1, (h q).2.2.2.2.1, (h q).2.2.2.2.2.1, (h q).2.2.2.2.2.2.1, (h q).2.2.2.2.2.2.2.1, (h q).2.2.2.2.2.2.2.2.1, (h q).2.2.2.2.2.2.2.2.2⟩
theorem rBc_nw {r : RSt} {f : Nat → Nat} {n : Nat} (h : rB r) (hf : ∀ q, f q < 65536) : rB (qNw r (cpM f (rNw r) n)) := fun q => ⟨(h q).1, (h q).2.1, (h q).2.2.1, cp_B hf (fun q => (h q).2.2.2.1) q, (h q).2.2.2.2.1, (h q).2.2.2.2.2.1, (h q).2.2.2.2.2.2.1, (h q).2.2.2.2.2.2.2.1, (h q).2.2.2.2.2.2.2.2.1, (h q).2.2.2.2.2.2.2.2.2⟩
theorem rBc_kn {r : RSt} {f : Nat → Nat} {n : Nat} (h : rB r) (hf : ∀ q, f q < 65536) : rB (qKn r (cpM f (rKn r) n)) := fun q => ⟨(h q).1, (h q).2.1, (h q).2.2.1, (h q).2.2.2.1, cp_B hf (fun q => (h q).2.2.2.2.1) q, (h q).2.2.2.2.2.1, (h q).2.2.2.2.2.2.1, (h q).2.2.2.2.2.2.2.1, (h q).2.2.2.2.2.2.2.2.1, (h q).2.2.2.2.2.2.2.2.2⟩
theorem rBc_ko {r : RSt} {f : Nat → Nat} {n : Nat} (h : rB r) (hf : ∀ q, f q < 65536) : rB (qKo r (cpM f (rKo r) n)) := fun q => ⟨(h q).1, (h q).2.1, (h q).2.2.1, (h q).2.2.2.1, (h q).2.2.2.2.1, cp_B hf (fun q => (h q).2.2.2.2.2.1) q, (h q).2.2.2.2.2.2.1, (h q).2.2.2.2.2.2.2.1, (h q).2.2.2.2.2.2.2.2.1, (h q).2.2.2.2.2.2.2.2.2⟩
theorem rBc_an {r : RSt} {f : Nat → Nat} {n : Nat} (h : rB r) (hf : ∀ q, f q < 65536) : rB (qAn r (cpM f (rAn r) n)) := fun q => ⟨(h q).1, (h q).2.1, (h q).2.2.1, (h q).2.2.2.1, (h q).2.2.2.2.1, (h q).2.2.2.2.2.1, (h q).2.2.2.2.2.2.1, cp_B hf (fun q => (h q).2.2.2.2.2.2.2.1) q, (h q).2.2.2.2.2.2.2.2.1, (h q).2.2.2.2.2.2.2.2.2⟩
theorem rBc_ao {r : RSt} {f : Nat → Nat} {n : Nat} (h : rB r) (hf : ∀ q, f q < 65536) : rB (qAo r (cpM f (rAo r) n)) := fun q => ⟨(h q).1, (h q).2.1, (h q).2.2.1, (h q).2.2.2.1, (h q).2.2.2.2.1, (h q).2.2.2.2.2.1, (h q).2.2.2.2.2.2.1, (h q).2.2.2.2.2.2.2.1, cp_B hf (fun q => (h q).2.2.2.2.2.2.2.2.1) q, (h q).2.2.2.2.2.2.2.2.2⟩
theorem rBc_aw {r : RSt} {f : Nat → Nat} {n : Nat} (h : rB r) (hf : ∀ q, f q < 65536) : rB (qAw r (cpM f (rAw r) n)) := fun q => ⟨(h q).1, (h q).2.1, (h q).2.2.1, (h q).2.2.2.1, (h q).2.2.2.2.1, (h q).2.2.2.2.2.1, (h q).2.2.2.2.2.2.1, (h q).2.2.2.2.2.2.2.1, (h q).2.2.2.2.2.2.2.2.1, cp_B hf (fun q => (h q).2.2.2.2.2.2.2.2.2) q⟩
/-- commitsAll: block b's first j bytes; n blocks from b on; all -/
def cmI (L : Nat) (r : RSt) (b : Nat) : Nat → RSt
  | 0 => r
  | j + 1 => qDn (cmI L r b j) (va_up (rDn (cmI L r b j)) (64 * b + j) (boR L (cmI L r b j) b j))
def cmO (L : Nat) : Nat → Nat → RSt → RSt
  | 0, _, r => r
  | n + 1, b, r => cmO L n (b + 1) (cmI L r b 64)
def keR (r : RSt) : RSt := qKo (qKn r (cpM (rNd r) (rKn r) 1280)) (cpM (rOw r) (rKo r) 768)
def cmR (L : Nat) (r : RSt) : RSt := keR (cmO L (L - 25) 25 r)
def ksR (r : RSt) : RSt := qAw (qAo (qAn r (cpM (rNd r) (rAn r) 1280)) (cpM (rOw r) (rAo r) 768)) (cpM (rNw r) (rAw r) 49152)
def bbR (r : RSt) : RSt := qNw (qOw (qNd r (cpM (rAn r) (rNd r) 1280)) (cpM (rAo r) (rOw r) 768)) (cpM (rAw r) (rNw r) 49152)
def drR (r : RSt) : RSt := qNw (qOw (qNd r (cpM (rKn r) (rNd r) 1280)) (cpM (rKo r) (rOw r) 768)) (cpM (rDn r) (rNw r) 49152)
/-- get, put -/
def gtR (r : RSt) (i c : Nat) : Nat := rNw r (64 * bkR (rNd r) i (c / 64) + c % 64)
def ptR (r : RSt) (i c v : Nat) : RSt := qNw r (va_up (rNw r) (64 * bkR (rNd r) i (c / 64) + c % 64) v)
theorem ptR_B {r : RSt} {i c v : Nat} (h : rB r) (hv : v < 65536) : rB (ptR r i c v) := rB_nw h hv
def nmR (r : RSt) (d e : Nat) : Nat := gtR r d (4 * e) + gtR r d (4 * e + 1) * 256
def eoG (r : RSt) (d w : Nat) : Nat → Nat → Int32
  | 0, _ => -1
  | n + 1, e => if nmR r d e = w then nI e else eoG r d w n (e + 1)
def eoR (r : RSt) (d w : Nat) : Int32 := eoG r d w (rNd r (20 * d + 1) / 4) 0
def iaR (r : RSt) (d e : Nat) : Nat := gtR r d (4 * e + 2)
def enR (r : RSt) (d e w i : Nat) : RSt := ptR (ptR (ptR r d (4 * e) (w % 256)) d (4 * e + 1) (w / 2 ^ 8)) d (4 * e + 2) i
def ieG (r : RSt) (d : Nat) : Nat → Bool
  | 0 => true
  | e + 1 => ieG r d e && decide (nmR r d e = 0)
def ieR (r : RSt) (d : Nat) : Bool := ieG r d (rNd r (20 * d + 1) / 4)
def bdR (r : RSt) (i : Nat) : Int32 := if rNd r (20 * i) = 0 then -1 else if rNd r (20 * i) = 1 then -5 else nI 0
def bfR (r : RSt) (i : Nat) : Int32 := if rNd r (20 * i) = 0 then -1 else if rNd r (20 * i) = 2 then -5 else nI 0
theorem bs_0 {f : Nat → Nat} {i t : Nat} (h : t < bsR f i) : 0 < f (20 * i + 2) := by
  rcases Nat.eq_zero_or_pos (f (20 * i + 2)) with z | z
  · unfold bsR at h; rw [z] at h; exact absurd h (Nat.not_lt_zero _)
  · exact z
theorem bs_s {f : Nat → Nat} {i t e u : Nat} (h : t < bsR f i) (he : e < f (20 * i + 2)) (h2 : bs f i e + u = t) (h3 : f (20 * i + 4 + 2 * e) ≤ u) : e + 1 < f (20 * i + 2) := by
  rcases Nat.lt_or_ge (e + 1) (f (20 * i + 2)) with z | z
  · exact z
  · have e1 : f (20 * i + 2) = e + 1 := by omega
    unfold bsR at h; rw [e1, bs] at h; omega
