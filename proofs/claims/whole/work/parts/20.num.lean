/-! Numbers: int and long by whole numbers -/
def jz (z : Int) : Int32 := Int32.ofInt z
def jw (z : Int) : Int64 := Int64.ofInt z
theorem jz_lit (n : Nat) : (no_index (OfNat.ofNat n) : Int32) = jz (OfNat.ofNat n) := by
  show Int32.ofNat n = Int32.ofInt (n : Int)
  exact (Int32.ofInt_eq_ofNat).symm
theorem jz_neg (a : Int) : -(jz a) = jz (-a) := (Int32.ofInt_neg a).symm
theorem jz_nat (n : Nat) : Int32.ofNat n = jz n := (Int32.ofInt_eq_ofNat).symm
theorem jz_add (a b : Int) : jz a + jz b = jz (a + b) := (Int32.ofInt_add a b).symm
theorem jz_sub (a b : Int) : jz a - jz b = jz (a - b) := (Int32.ofInt_sub a b).symm
theorem jz_mul (a b : Int) : jz a * jz b = jz (a * b) := (Int32.ofInt_mul a b).symm
theorem jz_int {a : Int} (h1 : -2147483648 ≤ a) (h2 : a < 2147483648) : (jz a).toInt = a := Int32.toInt_ofInt_of_le (by simpa using h1) (by simpa using h2)
theorem jz_lt {a b : Int} (h1 : -2147483648 ≤ a) (h2 : a < 2147483648) (h3 : -2147483648 ≤ b) (h4 : b < 2147483648) : jz a < jz b ↔ a < b := by
  rw [Int32.lt_iff_toInt_lt, jz_int h1 h2, jz_int h3 h4]
theorem jz_le {a b : Int} (h1 : -2147483648 ≤ a) (h2 : a < 2147483648) (h3 : -2147483648 ≤ b) (h4 : b < 2147483648) : jz a ≤ jz b ↔ a ≤ b := by
  rw [Int32.le_iff_toInt_le, jz_int h1 h2, jz_int h3 h4]
theorem jz_eq {a b : Int} (h1 : -2147483648 ≤ a) (h2 : a < 2147483648) (h3 : -2147483648 ≤ b) (h4 : b < 2147483648) : jz a = jz b ↔ a = b := by
  rw [← Int32.toInt_inj, jz_int h1 h2, jz_int h3 h4]
theorem jz_ix {a : Int} (h1 : -2147483648 ≤ a) (h2 : a < 2147483648) : (jz a).toNatClampNeg = a.toNat := by
  rw [← Int32.toNat_toInt, jz_int h1 h2]
theorem jz_div {a b : Int} (h1 : -2147483648 < a) (h2 : a < 2147483648) (h3 : -2147483648 ≤ b) (h4 : b < 2147483648) : jz a / jz b = jz (a.tdiv b) := by
  rw [← Int32.toInt_inj, Int32.toInt_div_of_ne_left, jz_int (by omega) h2, jz_int h3 h4, jz_int]
  · have := Int.natAbs_tdiv_le_natAbs a b
    omega
  · have := Int.natAbs_tdiv_le_natAbs a b
    omega
  · intro h
    have h5 : (jz a).toInt = Int32.minValue.toInt := by rw [h]
    rw [jz_int (by omega) h2] at h5
    have : Int32.minValue.toInt = -2147483648 := by decide
    omega
theorem jz_self (x : Int32) : x = jz x.toInt := (Int32.ofInt_toInt x).symm
theorem jz_bd (x : Int32) : -2147483648 ≤ x.toInt ∧ x.toInt < 2147483648 := ⟨by simpa using Int32.le_toInt x, by simpa using Int32.toInt_lt x⟩
theorem jin_z {a : Int} {n : Nat} (h1 : -2147483648 ≤ a) (h2 : a < 2147483648) : jin (jz a) n ↔ (0 ≤ a ∧ a < (n : Int)) := by
  show ¬ jz a < 0 ∧ (jz a).toNatClampNeg < n ↔ _
  rw [jz_ix h1 h2, show (0 : Int32) = jz 0 from rfl, jz_lt h1 h2 (by omega) (by omega)]
  omega
theorem jw_lit (n : Nat) : (no_index (OfNat.ofNat n) : Int64) = jw (OfNat.ofNat n) := by
  show Int64.ofNat n = Int64.ofInt (n : Int)
  exact (Int64.ofInt_eq_ofNat).symm
theorem jw_neg (a : Int) : -(jw a) = jw (-a) := (Int64.ofInt_neg a).symm
theorem jw_add (a b : Int) : jw a + jw b = jw (a + b) := (Int64.ofInt_add a b).symm
theorem jw_sub (a b : Int) : jw a - jw b = jw (a - b) := (Int64.ofInt_sub a b).symm
theorem jw_mul (a b : Int) : jw a * jw b = jw (a * b) := (Int64.ofInt_mul a b).symm
theorem jw_int {a : Int} (h1 : -9223372036854775808 ≤ a) (h2 : a < 9223372036854775808) : (jw a).toInt = a := Int64.toInt_ofInt_of_le (by simpa using h1) (by simpa using h2)
theorem jw_lt {a b : Int} (h1 : -9223372036854775808 ≤ a) (h2 : a < 9223372036854775808) (h3 : -9223372036854775808 ≤ b) (h4 : b < 9223372036854775808) : jw a < jw b ↔ a < b := by
  rw [Int64.lt_iff_toInt_lt, jw_int h1 h2, jw_int h3 h4]
theorem jw_le {a b : Int} (h1 : -9223372036854775808 ≤ a) (h2 : a < 9223372036854775808) (h3 : -9223372036854775808 ≤ b) (h4 : b < 9223372036854775808) : jw a ≤ jw b ↔ a ≤ b := by
  rw [Int64.le_iff_toInt_le, jw_int h1 h2, jw_int h3 h4]
theorem jw_eq {a b : Int} (h1 : -9223372036854775808 ≤ a) (h2 : a < 9223372036854775808) (h3 : -9223372036854775808 ≤ b) (h4 : b < 9223372036854775808) : jw a = jw b ↔ a = b := by
  rw [← Int64.toInt_inj, jw_int h1 h2, jw_int h3 h4]
theorem jw_div {a b : Int} (h1 : -9223372036854775808 < a) (h2 : a < 9223372036854775808) (h3 : -9223372036854775808 ≤ b) (h4 : b < 9223372036854775808) : jw a / jw b = jw (a.tdiv b) := by
  rw [← Int64.toInt_inj, Int64.toInt_div_of_ne_left, jw_int (by omega) h2, jw_int h3 h4, jw_int]
  · have := Int.natAbs_tdiv_le_natAbs a b
    omega
  · have := Int.natAbs_tdiv_le_natAbs a b
    omega
  · intro h
    have h5 : (jw a).toInt = Int64.minValue.toInt := by rw [h]
    rw [jw_int (by omega) h2] at h5
    have : Int64.minValue.toInt = -9223372036854775808 := by decide
    omega
theorem jzw {a : Int} (h1 : -2147483648 ≤ a) (h2 : a < 2147483648) : (jz a).toInt64 = jw a := by
  rw [← Int64.toInt_inj, Int32.toInt_toInt64, jz_int h1 h2, jw_int (by omega) (by omega)]
theorem jwz (a : Int) : (jw a).toInt32 = jz a := Int64.toInt32_ofInt
/-- a loop that counts: its states are known -/
theorem jlim_run {S E : Type} {step : S → Option (S ⊕ E)} (g : Nat → S) {e : E} : ∀ (n : Nat) (k : Nat), (∀ i, k ≤ i → i < k + n → step (g i) = some (.inl (g (i + 1)))) → step (g (k + n)) = some (.inr e) → jlim step (g k) = some e := by
  intro n
  induction n with
  | zero =>
    intro k _ he
    rw [jlim_eq, show g k = g (k + 0) from rfl, he]
  | succ n ih =>
    intro k hs he
    rw [jlim_eq, hs k (Nat.le_refl _) (by omega)]
    exact ih (k + 1) (fun i h1 h2 => hs i (by omega) (by omega)) (by rw [show k + 1 + n = k + (n + 1) by omega]; exact he)
theorem jlim_go {S E : Type} {step : S → Option (S ⊕ E)} (g : Nat → S) (n : Nat) {s : S} {e : E} (h0 : s = g 0) (hs : ∀ i, i < n → step (g i) = some (.inl (g (i + 1)))) (he : step (g n) = some (.inr e)) : jlim step s = some e := by
  subst h0
  exact jlim_run g n 0 (fun i _ h2 => hs i (by omega)) (by rw [Nat.zero_add]; exact he)
/-- a loop with an invariant and a measure -/
theorem jlim_inv {S E : Type} {step : S → Option (S ⊕ E)} (P : S → Prop) (m : S → Nat) (Q : E → Prop) (hs : ∀ s, P s → (∃ s', step s = some (.inl s') ∧ P s' ∧ m s' < m s) ∨ (∃ e, step s = some (.inr e) ∧ Q e)) : ∀ s, P s → ∃ e, jlim step s = some e ∧ Q e := by
  have : ∀ n s, m s < n → P s → ∃ e, jlim step s = some e ∧ Q e := by
    intro n
    induction n with
    | zero => intro s h; omega
    | succ n ih =>
      intro s hm hp
      rcases hs s hp with ⟨s', h1, h2, h3⟩ | ⟨e, h1, h2⟩
      · obtain ⟨e, h4, h5⟩ := ih s' (by omega) h2
        exact ⟨e, by rw [jlim_eq, h1]; exact h4, h5⟩
      · exact ⟨e, by rw [jlim_eq, h1], h2⟩
  intro s hp
  exact this (m s + 1) s (by omega) hp
