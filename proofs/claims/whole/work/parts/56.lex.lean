/-! texts: bytes, runs, words, numbers -/
def xL (c : Nat) : Bool := decide (97 ≤ c ∧ c ≤ 122)
def xD (c : Nat) : Bool := decide (48 ≤ c ∧ c ≤ 57)
def xB (c : Nat) : Bool := decide (c = 10 ∨ c = 32)
def xRn (n : Nat) (T : Nat → Nat) (P : Nat → Bool) : Nat → Nat → Nat
  | 0, s => s
  | f + 1, s => if s < n ∧ P (T s) = true then xRn n T P f (s + 1) else s
/-- the first place from s on where P ends -/
def xRun (n : Nat) (T : Nat → Nat) (P : Nat → Bool) (s : Nat) : Nat := xRn n T P (n - s) s
section XR
variable {n : Nat} {T : Nat → Nat} {P : Nat → Bool} {s e : Nat}
theorem xRun_eq : xRun n T P s = if s < n ∧ P (T s) = true then xRun n T P (s + 1) else s := by
  unfold xRun
  by_cases c : s < n
  · rw [show n - s = (n - (s + 1)) + 1 by omega]
    rfl
  · rw [if_neg (fun t => c t.1), show n - s = 0 by omega]
    rfl
theorem xRun_go (c : s < n) (p : P (T s) = true) : xRun n T P s = xRun n T P (s + 1) := by rw [xRun_eq, if_pos ⟨c, p⟩]
theorem xRun_st (c : ¬ (s < n ∧ P (T s) = true)) : xRun n T P s = s := by rw [xRun_eq, if_neg c]
theorem xRun_all : ∀ m s, n - s = m → s ≤ xRun n T P s ∧ (s ≤ n → xRun n T P s ≤ n) ∧ (∀ i, s ≤ i → i < xRun n T P s → P (T i) = true) ∧ ¬ (xRun n T P s < n ∧ P (T (xRun n T P s)) = true) := by
  intro m
  induction m with
  | zero =>
    intro s h
    rw [xRun_st (by omega)]
    exact ⟨by omega, by omega, fun i h1 h2 => by omega, by omega⟩
  | succ m ih =>
    intro s h
    by_cases c : s < n ∧ P (T s) = true
    · rw [xRun_go c.1 c.2]
      obtain ⟨h1, h2, h3, h4⟩ := ih (s + 1) (by omega)
      refine ⟨by omega, fun _ => h2 (by omega), fun i h5 h6 => ?_, h4⟩
      by_cases e : i = s
      · subst e; exact c.2
      · exact h3 i (by omega) h6
    · rw [xRun_st c]
      exact ⟨by omega, by omega, fun i h1 h2 => by omega, c⟩
theorem xRun_ge : s ≤ xRun n T P s := (xRun_all _ s rfl).1
theorem xRun_le (h : s ≤ n) : xRun n T P s ≤ n := (xRun_all _ s rfl).2.1 h
theorem xRun_in {i : Nat} (h1 : s ≤ i) (h2 : i < xRun n T P s) : P (T i) = true := (xRun_all _ s rfl).2.2.1 i h1 h2
theorem xRun_end : ¬ (xRun n T P s < n ∧ P (T (xRun n T P s)) = true) := (xRun_all _ s rfl).2.2.2
theorem xRun_end2 (h : xRun n T P s < n) : P (T (xRun n T P s)) = false := by
  have := xRun_end (n := n) (T := T) (P := P) (s := s)
  cases c : P (T (xRun n T P s)) with
  | false => rfl
  | true => exact absurd ⟨h, c⟩ this
theorem xRun_uq (h1 : s ≤ e) (h3 : ∀ i, s ≤ i → i < e → P (T i) = true) (h4 : ¬ (e < n ∧ P (T e) = true)) (h2 : e ≤ n) : xRun n T P s = e := by
  have a1 := xRun_ge (n := n) (T := T) (P := P) (s := s)
  have a2 := xRun_le (n := n) (T := T) (P := P) (s := s) (by omega)
  by_cases c : xRun n T P s < e
  · exact absurd ⟨by omega, h3 _ a1 c⟩ (xRun_end (n := n) (T := T) (P := P) (s := s))
  · by_cases c2 : e < xRun n T P s
    · exact absurd ⟨by omega, xRun_in h1 c2⟩ h4
    · omega
end XR
theorem xL_D {c : Nat} (h : xL c = true) : xD c = false := by
  unfold xL at h
  unfold xD
  have := of_decide_eq_true h
  exact decide_eq_false (by omega)
theorem xL_B {c : Nat} (h : xL c = true) : xB c = false := by
  unfold xL at h
  unfold xB
  have := of_decide_eq_true h
  exact decide_eq_false (by omega)
theorem xD_B {c : Nat} (h : xD c = true) : xB c = false := by
  unfold xD at h
  unfold xB
  have := of_decide_eq_true h
  exact decide_eq_false (by omega)
theorem xL_b {c : Nat} (h : xL c = true) : 97 ≤ c ∧ c ≤ 122 := of_decide_eq_true h
theorem xD_b {c : Nat} (h : xD c = true) : 48 ≤ c ∧ c ≤ 57 := of_decide_eq_true h
/-- behind blanks -/
def xSk (n : Nat) (T : Nat → Nat) (s : Nat) : Nat := xRun n T xB s
/-- k letters from s on, as the class packs them -/
def xPk (T : Nat → Nat) (s : Nat) : Nat → Nat
  | 0 => 0
  | k + 1 => xPk T s k + (T (s + k) - 96) * 32 ^ k
/-- k digits from s on, four at most -/
def xNm (T : Nat → Nat) (s : Nat) : Nat → Nat
  | 0 => 0
  | k + 1 => if k < 4 then 10 * xNm T s k + (T (s + k) - 48) else xNm T s k
theorem xPk_lt {T : Nat → Nat} {s : Nat} : ∀ k, (∀ i, i < k → xL (T (s + i)) = true) → xPk T s k < 32 ^ k := by
  intro k
  induction k with
  | zero => intro _; exact Nat.one_pos
  | succ k ih =>
    intro h
    have h1 := ih (fun i hi => h i (by omega))
    have h2 := xL_b (h k (by omega))
    have h3 : (T (s + k) - 96) * 32 ^ k ≤ 26 * 32 ^ k := Nat.mul_le_mul_right _ (by omega)
    show xPk T s k + (T (s + k) - 96) * 32 ^ k < 32 ^ (k + 1)
    rw [Nat.pow_succ]
    omega
theorem xNm_lt {T : Nat → Nat} {s : Nat} : ∀ k, (∀ i, i < k → xD (T (s + i)) = true) → xNm T s k < 10 ^ (min k 4) := by
  intro k
  induction k with
  | zero => intro _; exact Nat.one_pos
  | succ k ih =>
    intro h
    have h1 := ih (fun i hi => h i (by omega))
    have h2 := xD_b (h k (by omega))
    show (if k < 4 then 10 * xNm T s k + (T (s + k) - 48) else xNm T s k) < _
    by_cases c : k < 4
    · rw [if_pos c, show min (k + 1) 4 = k + 1 by omega, Nat.pow_succ]
      rw [show min k 4 = k by omega] at h1
      omega
    · rw [if_neg c, show min (k + 1) 4 = 4 by omega]
      rw [show min k 4 = 4 by omega] at h1
      exact h1
theorem xNm_9999 {T : Nat → Nat} {s k : Nat} (h : ∀ i, i < k → xD (T (s + i)) = true) : xNm T s k ≤ 9999 := by
  have h1 := xNm_lt k h
  have h2 : 10 ^ (min k 4) ≤ 10 ^ 4 := Nat.pow_le_pow_right (by omega) (by omega)
  omega
theorem p32_6 {k : Nat} (h : k ≤ 6) : 32 ^ k ≤ 1073741824 := by
  have := Nat.pow_le_pow_right (show 0 < 32 by omega) h
  omega
/-- packed letters tell the letters -/
theorem xPk_inj {T U : Nat → Nat} {s t : Nat} : ∀ k m, (∀ i, i < k → xL (T (s + i)) = true) → (∀ i, i < m → xL (U (t + i)) = true) → xPk T s k = xPk U t m → k = m ∧ ∀ i, i < k → T (s + i) = U (t + i) := by
  intro k
  induction k with
  | zero =>
    intro m _ h2 e
    cases m with
    | zero => exact ⟨rfl, fun i hi => by omega⟩
    | succ m =>
      exfalso
      have h3 := xL_b (h2 m (by omega))
      have h4 : 1 * 32 ^ m ≤ (U (t + m) - 96) * 32 ^ m := Nat.mul_le_mul_right _ (by omega)
      have h5 : 0 < 32 ^ m := Nat.pow_pos (by omega)
      have e' : 0 = xPk U t m + (U (t + m) - 96) * 32 ^ m := e
      omega
  | succ k ih =>
    intro m h1 h2 e
    cases m with
    | zero =>
      exfalso
      have h3 := xL_b (h1 k (by omega))
      have h4 : 1 * 32 ^ k ≤ (T (s + k) - 96) * 32 ^ k := Nat.mul_le_mul_right _ (by omega)
      have h5 : 0 < 32 ^ k := Nat.pow_pos (by omega)
      have e' : xPk T s k + (T (s + k) - 96) * 32 ^ k = 0 := e
      omega
    | succ m =>
      have e' : xPk T s k + (T (s + k) - 96) * 32 ^ k = xPk U t m + (U (t + m) - 96) * 32 ^ m := e
      have a1 := xPk_lt k (fun i hi => h1 i (by omega))
      have a2 := xPk_lt m (fun i hi => h2 i (by omega))
      have a3 := xL_b (h1 k (by omega))
      have a4 := xL_b (h2 m (by omega))
      have l1 : 1 * 32 ^ k ≤ (T (s + k) - 96) * 32 ^ k := Nat.mul_le_mul_right _ (by omega)
      have l2 : 1 * 32 ^ m ≤ (U (t + m) - 96) * 32 ^ m := Nat.mul_le_mul_right _ (by omega)
      have u1 : (T (s + k) - 96) * 32 ^ k ≤ 26 * 32 ^ k := Nat.mul_le_mul_right _ (by omega)
      have u2 : (U (t + m) - 96) * 32 ^ m ≤ 26 * 32 ^ m := Nat.mul_le_mul_right _ (by omega)
      have hkm : k = m := by
        by_cases c : k < m
        · exfalso
          have : 32 ^ (k + 1) ≤ 32 ^ m := Nat.pow_le_pow_right (by omega) (by omega)
          rw [Nat.pow_succ] at this
          omega
        · by_cases c2 : m < k
          · exfalso
            have : 32 ^ (m + 1) ≤ 32 ^ k := Nat.pow_le_pow_right (by omega) (by omega)
            rw [Nat.pow_succ] at this
            omega
          · omega
      subst hkm
      have ht : T (s + k) - 96 = U (t + k) - 96 := by
        have q1 : (xPk T s k + (T (s + k) - 96) * 32 ^ k) / 32 ^ k = T (s + k) - 96 := by
          rw [Nat.add_mul_div_right _ _ (Nat.pow_pos (by omega)), Nat.div_eq_of_lt a1, Nat.zero_add]
        have q2 : (xPk U t k + (U (t + k) - 96) * 32 ^ k) / 32 ^ k = U (t + k) - 96 := by
          rw [Nat.add_mul_div_right _ _ (Nat.pow_pos (by omega)), Nat.div_eq_of_lt a2, Nat.zero_add]
        rw [← q1, ← q2, e']
      rw [ht] at e'
      obtain ⟨-, h8⟩ := ih k (fun i hi => h1 i (by omega)) (fun i hi => h2 i (by omega)) (by omega)
      refine ⟨rfl, fun i hi => ?_⟩
      by_cases c : i = k
      · subst c; omega
      · exact h8 i (by omega)
theorem xPk_congr {T U : Nat → Nat} {s t : Nat} : ∀ k, (∀ i, i < k → T (s + i) = U (t + i)) → xPk T s k = xPk U t k := by
  intro k
  induction k with
  | zero => intro _; rfl
  | succ k ih =>
    intro h
    show xPk T s k + (T (s + k) - 96) * 32 ^ k = xPk U t k + (U (t + k) - 96) * 32 ^ k
    rw [ih (fun i hi => h i (by omega)), h k (by omega)]
theorem xPk_pos {T : Nat → Nat} {s k : Nat} (hk : 0 < k) (h : ∀ i, i < k → xL (T (s + i)) = true) : 0 < xPk T s k := by
  cases k with
  | zero => omega
  | succ k =>
    have h3 := xL_b (h k (by omega))
    have h4 : 1 * 32 ^ k ≤ (T (s + k) - 96) * 32 ^ k := Nat.mul_le_mul_right _ (by omega)
    have h5 : 0 < 32 ^ k := Nat.pow_pos (by omega)
    show 0 < xPk T s k + (T (s + k) - 96) * 32 ^ k
    omega
/-- a word's value, as the class holds it -/
def xWv (n : Nat) (T : Nat → Nat) (s : Nat) : Nat := if xRun n T xL s - s ≤ 6 then xPk T s (xRun n T xL s - s) else 0
def xNv (n : Nat) (T : Nat → Nat) (s : Nat) : Nat := xNm T s (xRun n T xD s - s)
/-- the kind of what stands at s, its end, its value -/
def xKd (n : Nat) (T : Nat → Nat) (e : Int) (s : Nat) : Int := if s < n then (if xL (T s) = true then (if (s : Int) = e then 4 else 1) else if xD (T s) = true then (if (s : Int) = e then 4 else 2) else 3) else 0
def xAf (n : Nat) (T : Nat → Nat) (s : Nat) : Nat := if s < n then (if xL (T s) = true then xRun n T xL s else if xD (T s) = true then xRun n T xD s else s + 1) else n
def xVl (n : Nat) (T : Nat → Nat) (s : Nat) : Int := if s < n then (if xL (T s) = true then (xWv n T s : Int) else if xD (T s) = true then (xNv n T s : Int) else (T s : Int)) else -1
theorem xSk_le {n : Nat} {T : Nat → Nat} {s : Nat} (h : s ≤ n) : xSk n T s ≤ n := xRun_le h
theorem xSk_ge {n : Nat} {T : Nat → Nat} {s : Nat} : s ≤ xSk n T s := xRun_ge
theorem xAf_gt {n : Nat} {T : Nat → Nat} {s : Nat} (h : s < n) : s < xAf n T s ∧ xAf n T s ≤ n := by
  unfold xAf
  rw [if_pos h]
  by_cases c : xL (T s) = true
  · rw [if_pos c, xRun_go h c]
    have := xRun_ge (n := n) (T := T) (P := xL) (s := s + 1)
    have := xRun_le (n := n) (T := T) (P := xL) (s := s + 1) (by omega)
    omega
  · rw [if_neg c]
    by_cases c2 : xD (T s) = true
    · rw [if_pos c2, xRun_go h c2]
      have := xRun_ge (n := n) (T := T) (P := xD) (s := s + 1)
      have := xRun_le (n := n) (T := T) (P := xD) (s := s + 1) (by omega)
      omega
    · rw [if_neg c2]
      omega
theorem xSk_idem {n : Nat} {T : Nat → Nat} {r : Nat} : xSk n T (xSk n T r) = xSk n T r := xRun_st xRun_end
