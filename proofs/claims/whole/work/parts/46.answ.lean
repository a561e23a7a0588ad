/-! answers: how likely that many of them come -/
def eNk : Nat → Nat → Nat
  | _, 0 => 1
  | 0, _ + 1 => 0
  | n + 1, k + 1 => eNk n k + eNk n (k + 1)
theorem eNk_gt : ∀ n k, n < k → eNk n k = 0 := by
  intro n
  induction n with
  | zero => intro k hk; obtain ⟨j, rfl⟩ : ∃ j, k = j + 1 := ⟨k - 1, by omega⟩; rfl
  | succ n ih =>
    intro k hk
    obtain ⟨j, rfl⟩ : ∃ j, k = j + 1 := ⟨k - 1, by omega⟩
    rw [eNk, ih j (by omega), ih (j + 1) (by omega)]
theorem eNk_0 (n : Nat) : eNk n 0 = 1 := by cases n <;> rfl
def eBn (s : Nat) : Nat → Nat → Nat
  | 0, k => if k = 0 then 1 else 0
  | w + 1, k => eBn s w k * (100 - s) + if k = 0 then 0 else eBn s w (k - 1) * s
theorem eBn_cl (s : Nat) : ∀ w k, (k ≤ w → eBn s w k = s ^ k * (100 - s) ^ (w - k) * eNk w k) ∧ (w < k → eBn s w k = 0) := by
  intro w
  induction w with
  | zero =>
    intro k
    constructor
    · intro hk
      have : k = 0 := by omega
      subst this
      rfl
    · intro hk
      rw [eBn, if_neg (by omega)]
  | succ w ih =>
    intro k
    constructor
    · intro hk
      rw [eBn]
      by_cases k0 : k = 0
      · subst k0
        rw [if_pos rfl, (ih 0).1 (by omega), eNk_0, eNk_0, Nat.sub_zero, Nat.sub_zero, Nat.pow_succ, Nat.pow_zero]
        rw [Nat.add_zero, Nat.mul_one, Nat.mul_one, Nat.one_mul, Nat.one_mul]
      · rw [if_neg k0]
        obtain ⟨j, rfl⟩ : ∃ j, k = j + 1 := ⟨k - 1, by omega⟩
        rw [Nat.add_sub_cancel, (ih j).1 (by omega), eNk, show w + 1 - (j + 1) = w - j by omega, Nat.mul_add, Nat.pow_succ]
        by_cases c : j + 1 ≤ w
        · rw [(ih (j + 1)).1 c, Nat.pow_succ, show w - j = (w - (j + 1)) + 1 by omega, Nat.pow_succ]
          generalize s ^ j = a
          generalize (100 - s) ^ (w - (j + 1)) = b
          generalize 100 - s = t
          generalize eNk w j = x
          generalize eNk w (j + 1) = y
          rw [Nat.add_comm]
          congr 1 <;> ac_rfl
        · have : j = w := by omega
          subst this
          rw [(ih (j + 1)).2 (by omega), eNk_gt j (j + 1) (by omega), Nat.zero_mul, Nat.zero_add, Nat.mul_zero, Nat.add_zero]
          ac_rfl
    · intro hk
      rw [eBn, (ih k).2 (by omega), if_neg (by omega), (ih (k - 1)).2 (by omega), Nat.zero_mul, Nat.zero_mul]
theorem eBn_le {s : Nat} (hs : s ≤ 100) : ∀ w k, eBn s w k ≤ 100 ^ w := by
  intro w
  induction w with
  | zero => intro k; rw [eBn]; split <;> omega
  | succ w ih =>
    intro k
    rw [eBn, Nat.pow_succ]
    have h1 : eBn s w k * (100 - s) ≤ 100 ^ w * (100 - s) := Nat.mul_le_mul_right _ (ih k)
    have h2 : (if k = 0 then 0 else eBn s w (k - 1) * s) ≤ 100 ^ w * s := by
      split
      · exact Nat.zero_le _
      · exact Nat.mul_le_mul_right _ (ih _)
    have h3 : 100 ^ w * (100 - s) + 100 ^ w * s = 100 ^ w * 100 := by rw [← Nat.mul_add, Nat.sub_add_cancel hs]
    omega
theorem eNk_step {w i : Nat} (hw : w ≤ 8) (hi : i < w) : eNk w i * (w - i) / (i + 1) = eNk w (i + 1) ∧ eNk w i ≤ 100 := by
  have h1 : (List.range 9).all (fun w => (List.range 9).all (fun i => decide (i < w → eNk w i * (w - i) / (i + 1) = eNk w (i + 1) ∧ eNk w i ≤ 100))) = true := by decide +kernel
  exact of_decide_eq_true (List.all_eq_true.mp (List.all_eq_true.mp h1 w (List.mem_range.mpr (by omega))) i (List.mem_range.mpr (by omega))) hi
/-- digits of P / A -/
def eDg (P A : Nat) : Nat → Nat × Nat
  | 0 => (0, P)
  | j + 1 => (10 * (eDg P A j).1 + (eDg P A j).2 * 10 / A, (eDg P A j).2 * 10 % A)
theorem eDg_spec {P A : Nat} (hA : 0 < A) (hP : P ≤ A) : ∀ j, (eDg P A j).1 * A + (eDg P A j).2 = P * 10 ^ j ∧ (eDg P A j).2 ≤ A ∧ (0 < j → (eDg P A j).2 < A) := by
  intro j
  induction j with
  | zero => exact ⟨by show 0 * A + P = P * 10 ^ 0; omega, hP, fun h => absurd h (by omega)⟩
  | succ j ih =>
    obtain ⟨i1, i2, i3⟩ := ih
    have m := Nat.mod_lt ((eDg P A j).2 * 10) hA
    refine ⟨?_, Nat.le_of_lt m, fun _ => m⟩
    show (10 * (eDg P A j).1 + (eDg P A j).2 * 10 / A) * A + (eDg P A j).2 * 10 % A = P * 10 ^ (j + 1)
    have d := Nat.div_add_mod ((eDg P A j).2 * 10) A
    rw [Nat.add_mul, Nat.mul_comm ((eDg P A j).2 * 10 / A) A, Nat.add_assoc, d, Nat.pow_succ, ← Nat.mul_assoc, ← i1, Nat.add_mul]
    congr 1
    ac_rfl
theorem eDg_six {P A : Nat} (hA : 0 < A) (hP : P ≤ A) : (eDg P A 6).1 = P * 1000000 / A := by
  obtain ⟨i1, i2, i3⟩ := eDg_spec hA hP 6
  have i3 := i3 (by omega)
  have e : P * 10 ^ 6 = P * 1000000 := rfl
  rw [e] at i1
  rw [← i1, Nat.mul_comm, Nat.mul_add_div hA, Nat.div_eq_of_lt i3, Nat.add_zero]
theorem eDg_cls {P w : Nat} (hw : w ≤ 8) : P * 1000000 / 100 ^ w = P * 100 ^ (3 - w) / 100 ^ (w - 3) := by
  by_cases c : w ≤ 3
  · rw [show w - 3 = 0 by omega, Nat.pow_zero, Nat.div_one]
    have e : 1000000 = 100 ^ (3 - w) * 100 ^ w := by rw [← Nat.pow_add, show 3 - w + w = 3 by omega]
    have h0 : 0 < 100 ^ w := Nat.pow_pos (by omega)
    rw [e, ← Nat.mul_assoc, Nat.mul_div_cancel _ h0]
  · rw [show 3 - w = 0 by omega, Nat.pow_zero, Nat.mul_one]
    have e : 100 ^ w = 1000000 * 100 ^ (w - 3) := by
      rw [show (1000000 : Nat) = 100 ^ 3 from rfl, ← Nat.pow_add, show 3 + (w - 3) = w by omega]
    rw [e, Nat.mul_comm 1000000, Nat.mul_div_mul_right _ _ (by omega)]
