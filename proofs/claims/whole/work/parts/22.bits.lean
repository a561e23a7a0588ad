/-! Bits of small sets; counting loops: first uses -/
theorem jbit_or {m n : Nat} : jz m ||| jz n = jz ((m ||| n : Nat) : Int) := by
  rw [← jz_nat, ← jz_nat, ← jz_nat, ← Int32.toBitVec_inj]
  show BitVec.ofNat 32 m ||| BitVec.ofNat 32 n = BitVec.ofNat 32 (m ||| n)
  exact BitVec.ofNat_or.symm
theorem jbit_and {m n : Nat} : jz m &&& jz n = jz ((m &&& n : Nat) : Int) := by
  rw [← jz_nat, ← jz_nat, ← jz_nat, ← Int32.toBitVec_inj]
  show BitVec.ofNat 32 m &&& BitVec.ofNat 32 n = BitVec.ofNat 32 (m &&& n)
  exact BitVec.ofNat_and.symm
theorem jbit_shl_t : (List.range 20).all (fun k => decide (((1 : Int32) <<< (jz (k : Int) &&& 31)) = jz ((2 ^ k : Nat) : Int))) = true := by decide +kernel
theorem jbit_shl {k : Nat} (h : k < 20) : (jz 1 <<< (jz k &&& jz 31)) = jz ((2 ^ k : Nat) : Int) := by
  have := List.all_eq_true.mp jbit_shl_t k (List.mem_range.mpr h)
  exact of_decide_eq_true this
theorem jbit_at_t : (List.range 256).all (fun m => (List.range 8).all (fun k => decide (((jz (m : Int) >>> (jz (k : Int) &&& 31)) &&& 1) = if m.testBit k then jz 1 else jz 0))) = true := by decide +kernel
theorem jbit_at {m k : Nat} (hm : m < 256) (hk : k < 8) : ((jz m >>> (jz k &&& jz 31)) &&& jz 1) = if m.testBit k then jz 1 else jz 0 := by
  have := List.all_eq_true.mp jbit_at_t m (List.mem_range.mpr hm)
  have := List.all_eq_true.mp this k (List.mem_range.mpr hk)
  exact of_decide_eq_true this
theorem jbit_sub_t : (List.range 256).all (fun m => (List.range 256).all (fun n => decide (((jz (m : Int) &&& (jz (n : Int) ^^^ (-1))) = 0) ↔ m ||| n = n))) = true := by decide +kernel
theorem jbit_sub {m n : Nat} (hm : m < 256) (hn : n < 256) : (jz m &&& (jz n ^^^ jz (-1))) = jz 0 ↔ m ||| n = n := by
  have := List.all_eq_true.mp jbit_sub_t m (List.mem_range.mpr hm)
  have := List.all_eq_true.mp this n (List.mem_range.mpr hn)
  exact of_decide_eq_true this
/-- how many bits a small set has -/
def jpc (s : Nat) : Nat := s % 2 + s / 2 % 2 + s / 4 % 2 + s / 8 % 2 + s / 16 % 2 + s / 32 % 2 + s / 64 % 2 + s / 128 % 2
theorem jpc_t1 : (List.range 256).all (fun m => decide (fIn_bitCount (jz (m : Int)) = jz (jpc m))) = true := by decide +kernel
theorem sIn_bitCount {m : Nat} (hm : m < 256) : fIn_bitCount (jz m) = jz (jpc m) := of_decide_eq_true (List.all_eq_true.mp jpc_t1 m (List.mem_range.mpr hm))
theorem jpc_t2 : (List.range 256).all (fun m => decide (jit (fM_bits_l4 (fun _ _ => 0, fun _ _ => 0)) 9 (0, jz (m : Int)) = some (jz (jpc m)))) = true := by decide +kernel
theorem sM_bits {m : Nat} (hm : m < 256) (h : jH) : fM_bits (jz m) h = some (jz (jpc m)) := by
  unfold fM_bits
  have h1 : jlim (fM_bits_l4 h) (0, jz (m : Int)) = some (jz (jpc m)) := jlim_iff.mpr ⟨9, of_decide_eq_true (List.all_eq_true.mp jpc_t2 m (List.mem_range.mpr hm))⟩
  rw [h1]
  rfl
/-- the set of those of the first n that f tells -/
def jset (f : Nat → Bool) : Nat → Nat
  | 0 => 0
  | n + 1 => if f n then jset f n ||| 2 ^ n else jset f n
theorem jset_lt (f : Nat → Bool) : ∀ n, jset f n < 2 ^ n := by
  intro n
  induction n with
  | zero => simp [jset]
  | succ n ih =>
    unfold jset
    split
    · refine Nat.or_lt_two_pow (by rw [Nat.pow_succ]; omega) ?_
      exact Nat.pow_lt_pow_right (by omega) (by omega)
    · rw [Nat.pow_succ]; omega
theorem jset_bit (f : Nat → Bool) (k : Nat) : ∀ n, (jset f n).testBit k = (decide (k < n) && f k) := by
  intro n
  induction n with
  | zero => simp [jset]
  | succ n ih =>
    unfold jset
    by_cases hk : k = n
    · subst hk
      have h0 : (jset f k).testBit k = false := Nat.testBit_lt_two_pow (jset_lt f k)
      split
      · next h => simp [Nat.testBit_or, h0, h]
      · next h => simp [h0, h]
    · have h2 : (2 ^ n).testBit k = false := by
        rw [Nat.testBit_two_pow]
        simp; omega
      have e : (decide (k < n + 1)) = decide (k < n) := by
        by_cases h : k < n
        · simp [h]; omega
        · simp [h]; omega
      split
      · simp [Nat.testBit_or, h2, ih, e]
      · rw [ih, e]
theorem jset_le (f : Nat → Bool) {n m : Nat} (h : n ≤ m) (hf : ∀ k, n ≤ k → k < m → f k = false) : jset f m = jset f n := by
  induction m with
  | zero => have : n = 0 := by omega
            subst this; rfl
  | succ m ih =>
    by_cases hn : n = m + 1
    · subst hn; rfl
    · rw [show jset f (m + 1) = if f m then jset f m ||| 2 ^ m else jset f m from rfl, hf m (by omega) (by omega)]
      exact ih (by omega) (fun k h1 h2 => hf k h1 (by omega))
