/-! How likely each number of heads is -/
/-- ways by the first k guests, who come by t of ten with sizes s, that just n come -/
def eHd (t s : Nat → Int) : Nat → Int → Int
  | 0, n => if n = 0 then 1 else 0
  | k + 1, n => eHd t s k n * (10 - t k) + eHd t s k (n - s k) * t k
/-- ten to the 8, less k -/
def ePw (k : Nat) : Int := (10 : Int) ^ (8 - k)
theorem ePw_s {k : Nat} (h : k < 8) : ePw k = 10 * ePw (k + 1) := by
  unfold ePw
  rw [show 8 - k = (8 - (k + 1)) + 1 by omega, Int.pow_succ]
  omega
theorem ePw_b (k : Nat) : 1 ≤ ePw k ∧ ePw k ≤ 100000000 := by
  unfold ePw
  constructor
  · have := Int.pow_pos (n := 10) (m := 8 - k) (by omega)
    omega
  · have h1 : (10 : Nat) ^ (8 - k) ≤ 10 ^ 8 := Nat.pow_le_pow_right (by omega) (by omega)
    have h2 : ((10 ^ (8 - k) : Nat) : Int) ≤ ((10 ^ 8 : Nat) : Int) := Int.ofNat_le.mpr h1
    simpa using h2
theorem ePw_all {k : Nat} (h : k ≤ 8) : ePw k * (10 : Int) ^ k = 100000000 := by
  unfold ePw
  rw [← Int.pow_add, show 8 - k + k = 8 by omega]
  rfl
theorem eHd_neg {t s : Nat → Int} : ∀ {k : Nat}, (∀ i, i < k → 0 ≤ s i) → ∀ {n : Int}, n < 0 → eHd t s k n = 0 := by
  intro k
  induction k with
  | zero => intro _ n hn; unfold eHd; rw [if_neg (by omega)]
  | succ k ih =>
    intro hs n hn
    have := hs k (by omega)
    unfold eHd
    rw [ih (fun i hi => hs i (by omega)) hn, ih (fun i hi => hs i (by omega)) (by omega)]
    simp
theorem eHd_b {t s : Nat → Int} : ∀ {k : Nat}, (∀ i, i < k → 0 ≤ t i ∧ t i ≤ 10) → ∀ {n : Int}, 0 ≤ eHd t s k n ∧ eHd t s k n ≤ (10 : Int) ^ k := by
  intro k
  induction k with
  | zero => intro _ n; unfold eHd; split <;> simp
  | succ k ih =>
    intro ht n
    have h1 := ih (fun i hi => ht i (by omega)) (n := n)
    have h2 := ih (fun i hi => ht i (by omega)) (n := n - s k)
    have h3 := ht k (by omega)
    unfold eHd
    rw [Int.pow_succ]
    generalize eHd t s k n = a at *
    generalize eHd t s k (n - s k) = c at *
    generalize (10 : Int) ^ k = w at *
    generalize t k = u at *
    have e1 : 0 ≤ a * (10 - u) := Int.mul_nonneg h1.1 (by omega)
    have e2 : 0 ≤ c * u := Int.mul_nonneg h2.1 h3.1
    have e3 : a * (10 - u) ≤ w * (10 - u) := Int.mul_le_mul_of_nonneg_right h1.2 (by omega)
    have e4 : c * u ≤ w * u := Int.mul_le_mul_of_nonneg_right h2.2 h3.1
    have e5 : w * (10 - u) + w * u = w * 10 := by rw [← Int.mul_add]; congr 1; omega
    omega
section EH
variable {p g : Nat} {D S : jD} {h : jH}
theorem eTens_lt (hk : ∀ k, k < g → 0 ≤ eTens D S k ∧ eTens D S k ≤ 10) : True := trivial
theorem sM_lays1 : ∃ h', jlim fM_laysHeads_l2 (1, h) = some h' ∧ eFr (fun o _ => o = 150) h h' ∧ ∀ n : Nat, 1 ≤ n → n ≤ 32 → h'.2 150 n = jw 0 := by
  have hl := jlim_cnt (step := fM_laysHeads_l2) (fun k (x : jH) => (jz k, x)) (fun k x => eFr (fun o _ => o = 150) h x ∧ ∀ n : Nat, 1 ≤ n → n < k → x.2 150 n = jw 0) (fun x => eFr (fun o _ => o = 150) h x ∧ ∀ n : Nat, 1 ≤ n → n ≤ 32 → x.2 150 n = jw 0) 33 32 1 (by omega) h ⟨eFr_refl _ _, fun n h1 h2 => by omega⟩ ?_ ?_
  · exact hl
  · rintro k x hk1 hk2 ⟨q1, q2⟩
    refine ⟨jhL x 150 k (jw 0), ?_, eFr_L (S := fun o _ => o = 150) q1 rfl _, fun n h1 h2 => ?_⟩
    · simp only [fM_laysHeads_l2, fM_laysHeads_l2_b]
      simp (disch := omega) only [Bool.false_eq_true, jz_lit, jz_neg, jz_nat, jz_add, jz_sub, jz_mul, jz_lt, jz_le, jz_eq, jz_ix, jin_z, jz_div, jzw, jwz, jw_lit, jw_neg, jw_add, jw_sub, jw_mul, jw_lt, jw_le, jw_eq, jw_div, Int.toNat_natCast, if_pos, if_neg, if_true, if_false, Option.bind_some, Int.natCast_add, Int.natCast_mul, Int.cast_ofNat_Int, Int.reduceToNat, Int.reduceAdd, Int.reduceMul, Int.reduceSub, Int.reduceNeg, Nat.reduceAdd, Nat.reduceMul]
    · rw [jhL_2]
      by_cases e : n = k
      · rw [if_pos ⟨rfl, e⟩]
      · rw [if_neg (by omega)]; exact q2 n h1 (by omega)
  · rintro x ⟨q1, q2⟩
    refine ⟨x, ?_, q1, fun n h1 h2 => q2 n h1 (by omega)⟩
    simp only [fM_laysHeads_l2, fM_laysHeads_l2_b]
    simp (disch := omega) only [Bool.false_eq_true, jz_lit, jz_neg, jz_nat, jz_add, jz_sub, jz_mul, jz_lt, jz_le, jz_eq, jz_ix, jin_z, jz_div, jzw, jwz, jw_lit, jw_neg, jw_add, jw_sub, jw_mul, jw_lt, jw_le, jw_eq, jw_div, Int.toNat_natCast, if_pos, if_neg, if_true, if_false, Option.bind_some, Int.natCast_add, Int.natCast_mul, Int.cast_ofNat_Int, Int.reduceToNat, Int.reduceAdd, Int.reduceMul, Int.reduceSub, Int.reduceNeg, Nat.reduceAdd, Nat.reduceMul]
theorem sM_lays2 {t : Int} {s : Nat} {W : Nat → Int} (i : Int32) (ht : 0 ≤ t ∧ t ≤ 10) (hs : 1 ≤ s ∧ s ≤ 4) (hW : ∀ n : Nat, n ≤ 32 → h.2 150 n = jw (W n)) : ∃ h', jlim (fM_laysHeads_l59 i (jz t) (jz s)) (32, h) = some h' ∧ eFr (fun o _ => o = 150) h h' ∧ ∀ n : Nat, n ≤ 32 → h'.2 150 n = jw (W n * (10 - t) + (if s ≤ n then W (n - s) * t else 0)) := by
  have hl := jlim_cnt (step := fM_laysHeads_l59 i (jz t) (jz s)) (fun k (x : jH) => (jz (32 - (k : Int)), x)) (fun k x => eFr (fun o _ => o = 150) h x ∧ ∀ n : Nat, n ≤ 32 → x.2 150 n = if 32 < n + k then jw (W n * (10 - t) + (if s ≤ n then W (n - s) * t else 0)) else jw (W n)) (fun x => eFr (fun o _ => o = 150) h x ∧ ∀ n : Nat, n ≤ 32 → x.2 150 n = jw (W n * (10 - t) + (if s ≤ n then W (n - s) * t else 0))) 33 33 0 (by omega) h ⟨eFr_refl _ _, fun n hn => by rw [if_neg (by omega)]; exact hW n hn⟩ ?_ ?_
  · exact hl
  · rintro k x hk1 hk2 ⟨q1, q2⟩
    have e0 : (32 - (k : Int)).toNat = 32 - k := by omega
    have r1 := q2 (32 - k) (by omega)
    rw [if_neg (by omega)] at r1
    have e9 : (32 - (k : Int)) + -1 = 32 - ((k + 1 : Nat) : Int) := by omega
    by_cases c : 32 - k < s
    · refine ⟨jhL x 150 (32 - k) (jw (W (32 - k) * (10 - t) + 0)), ?_, eFr_L (S := fun o _ => o = 150) q1 rfl _, fun n hn => ?_⟩
      · simp only [fM_laysHeads_l59, fM_laysHeads_l59_b, fM_laysHeads_l59_j105, jss_150]
        simp (disch := omega) only [Bool.false_eq_true, jz_lit, jz_neg, jz_nat, jz_add, jz_sub, jz_mul, jz_lt, jz_le, jz_eq, jz_ix, jin_z, jz_div, jzw, jwz, jw_lit, jw_neg, jw_add, jw_sub, jw_mul, jw_lt, jw_le, jw_eq, jw_div, Int.toNat_natCast, if_pos, if_neg, if_true, if_false, Option.bind_some, Int.natCast_add, Int.natCast_mul, Int.cast_ofNat_Int, Int.reduceToNat, Int.reduceAdd, Int.reduceMul, Int.reduceSub, Int.reduceNeg, Nat.reduceAdd, Nat.reduceMul, e0, r1, e9]
      · rw [jhL_2]
        by_cases e : n = 32 - k
        · rw [if_pos ⟨rfl, e⟩, if_pos (by omega), if_neg (by omega), e]
        · rw [if_neg (by omega), q2 n hn]
          by_cases f : 32 < n + k
          · rw [if_pos f, if_pos (show 32 < n + (k + 1) by omega)]
          · rw [if_neg f, if_neg (show ¬ (32 < n + (k + 1)) by omega)]
    · have r2 := q2 (32 - k - s) (by omega)
      rw [if_neg (by omega)] at r2
      have e1 : (32 - (k : Int) - (s : Int)).toNat = 32 - k - s := by omega
      refine ⟨jhL x 150 (32 - k) (jw (W (32 - k) * (10 - t) + W (32 - k - s) * t)), ?_, eFr_L (S := fun o _ => o = 150) q1 rfl _, fun n hn => ?_⟩
      · simp only [fM_laysHeads_l59, fM_laysHeads_l59_b, fM_laysHeads_l59_j105, jss_150]
        simp (disch := omega) only [Bool.false_eq_true, jz_lit, jz_neg, jz_nat, jz_add, jz_sub, jz_mul, jz_lt, jz_le, jz_eq, jz_ix, jin_z, jz_div, jzw, jwz, jw_lit, jw_neg, jw_add, jw_sub, jw_mul, jw_lt, jw_le, jw_eq, jw_div, Int.toNat_natCast, if_pos, if_neg, if_true, if_false, Option.bind_some, Int.natCast_add, Int.natCast_mul, Int.cast_ofNat_Int, Int.reduceToNat, Int.reduceAdd, Int.reduceMul, Int.reduceSub, Int.reduceNeg, Nat.reduceAdd, Nat.reduceMul, e0, r1, r2, e1, e9]
      · rw [jhL_2]
        by_cases e : n = 32 - k
        · rw [if_pos ⟨rfl, e⟩, if_pos (by omega), if_pos (by omega), e]
        · rw [if_neg (by omega), q2 n hn]
          by_cases f : 32 < n + k
          · rw [if_pos f, if_pos (show 32 < n + (k + 1) by omega)]
          · rw [if_neg f, if_neg (show ¬ (32 < n + (k + 1)) by omega)]
  · rintro x ⟨q1, q2⟩
    refine ⟨x, ?_, q1, fun n hn => ?_⟩
    · simp only [fM_laysHeads_l59, fM_laysHeads_l59_b]
      simp (disch := omega) only [Bool.false_eq_true, jz_lit, jz_neg, jz_nat, jz_add, jz_sub, jz_mul, jz_lt, jz_le, jz_eq, jz_ix, jin_z, jz_div, jzw, jwz, jw_lit, jw_neg, jw_add, jw_sub, jw_mul, jw_lt, jw_le, jw_eq, jw_div, Int.toNat_natCast, if_pos, if_neg, if_true, if_false, Option.bind_some, Int.natCast_add, Int.natCast_mul, Int.cast_ofNat_Int, Int.reduceToNat, Int.reduceAdd, Int.reduceMul, Int.reduceSub, Int.reduceNeg, Nat.reduceAdd, Nat.reduceMul]
    · rw [q2 n hn, if_pos (by omega)]
/-- the sizes as numbers -/
theorem eSz {k : Nat} (b : bV g D) (hk : k < g) : ∃ s : Nat, D 5 k = s ∧ 1 ≤ s ∧ s ≤ 4 := by
  have := b.2.2.2.1 k hk
  exact ⟨(D 5 k).toNat, by omega, by omega, by omega⟩
theorem eHd_s {t : Nat → Int} {k n s : Nat} (hs : ∀ i, i < g → 0 ≤ D 5 i) (hk : k < g) (e : D 5 k = s) : eHd t (D 5) (k + 1) (n : Int) = eHd t (D 5) k n * (10 - t k) + (if s ≤ n then eHd t (D 5) k ((n - s : Nat) : Int) * t k else 0) := by
  show eHd t (D 5) k n * (10 - t k) + eHd t (D 5) k ((n : Int) - D 5 k) * t k = _
  rw [e]
  by_cases c : s ≤ n
  · rw [if_pos c, show ((n : Int) - (s : Int)) = ((n - s : Nat) : Int) by omega]
  · rw [if_neg c, eHd_neg (fun i hi => hs i (by omega)) (show (n : Int) - (s : Int) < 0 by omega)]
    simp
theorem sM_lays (b : bV g D) (m : mV g D h) (bs : bS g S) (ms : mS S h) : ∃ h', fM_laysHeads h = some h' ∧ eFr (fun o k => o = 150 ∨ (o = 110 ∧ k = 53)) h h' ∧ (∀ n : Nat, n ≤ 32 → h'.2 150 n = jw (eHd (eTens D S) (D 5) g n)) ∧ h'.2 110 53 = jw ((10 : Int) ^ g) := by
  have b0 := b.1
  have hs : ∀ i, i < g → 0 ≤ D 5 i := fun i hi => by have := b.2.2.2.1 i hi; omega
  obtain ⟨x0, e0, f0, z0⟩ := sM_lays1 (h := h)
  have hl := jlim_cnt (step := fM_laysHeads_l35) (fun k (x : jH) => (jz k, x)) (fun k x => eFr (fun o k => o = 150 ∨ (o = 110 ∧ k = 53)) h x ∧ (∀ n : Nat, n ≤ 32 → x.2 150 n = jw (eHd (eTens D S) (D 5) k n)) ∧ x.2 110 53 = jw ((10 : Int) ^ k)) (fun x => eFr (fun o k => o = 150 ∨ (o = 110 ∧ k = 53)) h x ∧ (∀ n : Nat, n ≤ 32 → x.2 150 n = jw (eHd (eTens D S) (D 5) g n)) ∧ x.2 110 53 = jw ((10 : Int) ^ g)) g g 0 (by omega) (jhL (jhL x0 150 0 (jw 1)) 110 53 (jw 1)) ?_ ?_ ?_
  · obtain ⟨x, h1, h2, h3, h4⟩ := hl
    refine ⟨x, ?_, h2, h3, h4⟩
    unfold fM_laysHeads
    rw [e0]
    have h1' : jlim fM_laysHeads_l35 (jz 0, jhL (jhL x0 150 0 (jw 1)) 110 53 (jw 1)) = some x := h1
    simp (disch := omega) only [Bool.false_eq_true, jz_lit, jz_neg, jz_nat, jz_add, jz_sub, jz_mul, jz_lt, jz_le, jz_eq, jz_ix, jin_z, jz_div, jzw, jwz, jw_lit, jw_neg, jw_add, jw_sub, jw_mul, jw_lt, jw_le, jw_eq, jw_div, Int.toNat_natCast, if_pos, if_neg, if_true, if_false, Option.bind_some, Int.natCast_add, Int.natCast_mul, Int.cast_ofNat_Int, Int.reduceToNat, Int.reduceAdd, Int.reduceMul, Int.reduceSub, Int.reduceNeg, Nat.reduceAdd, Nat.reduceMul, h1']
  · refine ⟨eFr_L (S := fun o k => o = 150 ∨ (o = 110 ∧ k = 53)) (eFr_L (S := fun o k => o = 150 ∨ (o = 110 ∧ k = 53)) (eFr_mono f0 (fun o k hk => Or.inl hk)) (Or.inl rfl) _) (Or.inr ⟨rfl, rfl⟩) _, fun n hn => ?_, ?_⟩
    · show (jhL (jhL x0 150 0 (jw 1)) 110 53 (jw 1)).2 150 n = jw (if (n : Int) = 0 then 1 else 0)
      rw [jhL_2, if_neg (by omega), jhL_2]
      by_cases e : n = 0
      · rw [if_pos ⟨rfl, e⟩, if_pos (by omega)]
      · rw [if_neg (by omega), if_neg (by omega)]
        exact z0 n (by omega) hn
    · rfl
  · rintro k x _ hk ⟨q1, q2, q3⟩
    have m1 : mV g D x := mV_fr (fun o k hk => q1.1 o k (by omega)) m
    have ms1 : mS S x := mS_fr (fun k => q1.1 _ k (by omega)) ms
    obtain ⟨s, es, hs1⟩ := eSz b hk
    have ht := eTens_b (S := S) b hk
    obtain ⟨y, e1, f1, z1⟩ := sM_lays2 (h := x) (t := eTens D S k) (s := s) (W := fun n => eHd (eTens D S) (D 5) k n) (jz k) ht hs1 q2
    have e1' : jlim (fM_laysHeads_l59 (jz k) (jz (eTens D S k)) (jz s)) (jz 32, x) = some y := e1
    have q4 : y.2 110 53 = jw ((10 : Int) ^ k) := by rw [f1.2 _ _ (by omega)]; exact q3
    have sz := sM_sizeOf b m1 hk
    rw [es] at sz
    refine ⟨jhL y 110 53 (jw ((10 : Int) ^ k * 10)), ?_, eFr_L (S := fun o k => o = 150 ∨ (o = 110 ∧ k = 53)) (eFr_trans q1 (eFr_mono f1 (fun o k hk => Or.inl hk))) (Or.inr ⟨rfl, rfl⟩) _, fun n hn => ?_, ?_⟩
    · simp only [fM_laysHeads_l35, fM_laysHeads_l35_b, sM_guestMany m1]
      simp (disch := omega) only [Bool.false_eq_true, jz_lit, jz_neg, jz_nat, jz_add, jz_sub, jz_mul, jz_lt, jz_le, jz_eq, jz_ix, jin_z, jz_div, jzw, jwz, jw_lit, jw_neg, jw_add, jw_sub, jw_mul, jw_lt, jw_le, jw_eq, jw_div, Int.toNat_natCast, if_pos, if_neg, if_true, if_false, Option.bind_some, Int.natCast_add, Int.natCast_mul, Int.cast_ofNat_Int, Int.reduceToNat, Int.reduceAdd, Int.reduceMul, Int.reduceSub, Int.reduceNeg, Nat.reduceAdd, Nat.reduceMul, sM_tensOf b m1 bs ms1 hk, sz, e1', q4]
    · rw [jhL_2, if_neg (by omega), z1 n hn, eHd_s hs hk es]
    · rw [jhL_2, if_pos ⟨rfl, rfl⟩, Int.pow_succ]
  · rintro x ⟨q1, q2, q3⟩
    have m1 : mV g D x := mV_fr (fun o k hk => q1.1 o k (by omega)) m
    refine ⟨x, ?_, q1, q2, q3⟩
    simp only [fM_laysHeads_l35, fM_laysHeads_l35_b, sM_guestMany m1]
    simp (disch := omega) only [Bool.false_eq_true, jz_lit, jz_neg, jz_nat, jz_add, jz_sub, jz_mul, jz_lt, jz_le, jz_eq, jz_ix, jin_z, jz_div, jzw, jwz, jw_lit, jw_neg, jw_add, jw_sub, jw_mul, jw_lt, jw_le, jw_eq, jw_div, Int.toNat_natCast, if_pos, if_neg, if_true, if_false, Option.bind_some, Int.natCast_add, Int.natCast_mul, Int.cast_ofNat_Int, Int.reduceToNat, Int.reduceAdd, Int.reduceMul, Int.reduceSub, Int.reduceNeg, Nat.reduceAdd, Nat.reduceMul]
theorem sCr_clear : ∃ h', fCr_clear h = some h' ∧ eFr (fun o _ => o = 80 ∨ o = 81) h h' ∧ h'.1 80 1 = jz 0 ∧ ∀ n : Nat, n ≤ 32 → h'.2 81 n = jw (if n = 0 then 100000000 else 0) := by
  have hl := jlim_cnt (step := fCr_clear_l2) (fun k (x : jH) => (jz k, x)) (fun k x => eFr (fun o _ => o = 80 ∨ o = 81) h x ∧ ∀ n : Nat, n < k → x.2 81 n = jw 0) (fun x => eFr (fun o _ => o = 80 ∨ o = 81) h x ∧ ∀ n : Nat, n ≤ 32 → x.2 81 n = jw 0) 33 33 0 (by omega) h ⟨eFr_refl _ _, fun n h2 => by omega⟩ ?_ ?_
  · obtain ⟨x, h1, h2, h3⟩ := hl
    refine ⟨jhI (jhL x 81 0 (jw 100000000)) 80 1 (jz 0), ?_, eFr_I (S := fun o _ => o = 80 ∨ o = 81) (eFr_L (S := fun o _ => o = 80 ∨ o = 81) h2 (Or.inr rfl) _) (Or.inl rfl) _, rfl, fun n hn => ?_⟩
    · unfold fCr_clear
      have h1' : jlim fCr_clear_l2 (jz 0, h) = some x := h1
      simp (disch := omega) only [Bool.false_eq_true, jz_lit, jz_neg, jz_nat, jz_add, jz_sub, jz_mul, jz_lt, jz_le, jz_eq, jz_ix, jin_z, jz_div, jzw, jwz, jw_lit, jw_neg, jw_add, jw_sub, jw_mul, jw_lt, jw_le, jw_eq, jw_div, Int.toNat_natCast, if_pos, if_neg, if_true, if_false, Option.bind_some, Int.natCast_add, Int.natCast_mul, Int.cast_ofNat_Int, Int.reduceToNat, Int.reduceAdd, Int.reduceMul, Int.reduceSub, Int.reduceNeg, Nat.reduceAdd, Nat.reduceMul, h1']
    · rw [jhI_2, jhL_2]
      by_cases e : n = 0
      · rw [if_pos ⟨rfl, e⟩, if_pos e]
      · rw [if_neg (by omega), if_neg e]; exact h3 n hn
  · rintro k x hk1 hk2 ⟨q1, q2⟩
    refine ⟨jhL x 81 k (jw 0), ?_, eFr_L (S := fun o _ => o = 80 ∨ o = 81) q1 (Or.inr rfl) _, fun n h2 => ?_⟩
    · simp only [fCr_clear_l2, fCr_clear_l2_b]
      simp (disch := omega) only [Bool.false_eq_true, jz_lit, jz_neg, jz_nat, jz_add, jz_sub, jz_mul, jz_lt, jz_le, jz_eq, jz_ix, jin_z, jz_div, jzw, jwz, jw_lit, jw_neg, jw_add, jw_sub, jw_mul, jw_lt, jw_le, jw_eq, jw_div, Int.toNat_natCast, if_pos, if_neg, if_true, if_false, Option.bind_some, Int.natCast_add, Int.natCast_mul, Int.cast_ofNat_Int, Int.reduceToNat, Int.reduceAdd, Int.reduceMul, Int.reduceSub, Int.reduceNeg, Nat.reduceAdd, Nat.reduceMul]
    · rw [jhL_2]
      by_cases e : n = k
      · rw [if_pos ⟨rfl, e⟩]
      · rw [if_neg (by omega)]; exact q2 n (by omega)
  · rintro x ⟨q1, q2⟩
    refine ⟨x, ?_, q1, fun n h2 => q2 n (by omega)⟩
    simp only [fCr_clear_l2, fCr_clear_l2_b]
    simp (disch := omega) only [Bool.false_eq_true, jz_lit, jz_neg, jz_nat, jz_add, jz_sub, jz_mul, jz_lt, jz_le, jz_eq, jz_ix, jin_z, jz_div, jzw, jwz, jw_lit, jw_neg, jw_add, jw_sub, jw_mul, jw_lt, jw_le, jw_eq, jw_div, Int.toNat_natCast, if_pos, if_neg, if_true, if_false, Option.bind_some, Int.natCast_add, Int.natCast_mul, Int.cast_ofNat_Int, Int.reduceToNat, Int.reduceAdd, Int.reduceMul, Int.reduceSub, Int.reduceNeg, Nat.reduceAdd, Nat.reduceMul]
theorem sCr_addl {t : Int} {s M : Nat} {W : Nat → Int} (hM : M ≤ 32) (ht : 0 ≤ t ∧ t ≤ 10) (hs : 1 ≤ s ∧ s ≤ 4) (hW : ∀ n : Nat, n ≤ 32 → h.2 81 n = jw (10 * W n)) (hb : ∀ n : Nat, 0 ≤ W n ∧ W n ≤ 100000000) : ∃ h', jlim (fCr_add_l29 (jz t) (jz s)) (jz M, h) = some h' ∧ eFr (fun o _ => o = 80 ∨ o = 81) h h' ∧ h'.1 80 1 = h.1 80 1 ∧ ∀ n : Nat, n ≤ 32 → h'.2 81 n = jw (if n ≤ M then W n * (10 - t) + (if s ≤ n then W (n - s) * t else 0) else 10 * W n) := by
  have hl := jlim_cnt (step := fCr_add_l29 (jz t) (jz s)) (fun k (x : jH) => (jz ((M : Int) - (k : Int)), x)) (fun k x => eFr (fun o _ => o = 80 ∨ o = 81) h x ∧ x.1 80 1 = h.1 80 1 ∧ ∀ n : Nat, n ≤ 32 → x.2 81 n = if M < n + k ∧ n ≤ M then jw (W n * (10 - t) + (if s ≤ n then W (n - s) * t else 0)) else jw (10 * W n)) (fun x => eFr (fun o _ => o = 80 ∨ o = 81) h x ∧ x.1 80 1 = h.1 80 1 ∧ ∀ n : Nat, n ≤ 32 → x.2 81 n = jw (if n ≤ M then W n * (10 - t) + (if s ≤ n then W (n - s) * t else 0) else 10 * W n)) (M + 1) (M + 1) 0 (by omega) h ⟨eFr_refl _ _, rfl, fun n hn => by rw [if_neg (by omega)]; exact hW n hn⟩ ?_ ?_
  · obtain ⟨e, h1, h2⟩ := hl
    exact ⟨e, by rw [← h1]; simp, h2⟩
  · rintro k x hk1 hk2 ⟨q1, q0, q2⟩
    have e0 : ((M : Int) - (k : Int)).toNat = M - k := by omega
    have r1 := q2 (M - k) (by omega)
    rw [if_neg (by omega)] at r1
    have w1 := hb (M - k)
    have d1 : (10 * W (M - k)).tdiv 10 = W (M - k) := Int.mul_tdiv_cancel_left _ (by omega)
    by_cases c : M - k < s
    · refine ⟨jhL x 81 (M - k) (jw (W (M - k) * (10 - t) + 0)), ?_, eFr_L (S := fun o _ => o = 80 ∨ o = 81) q1 (Or.inr rfl) _, q0, fun n hn => ?_⟩
      · simp only [fCr_add_l29, fCr_add_l29_b, fCr_add_l29_j57]
        simp (disch := omega) only [Bool.false_eq_true, jz_lit, jz_neg, jz_nat, jz_add, jz_sub, jz_mul, jz_lt, jz_le, jz_eq, jz_ix, jin_z, jz_div, jzw, jwz, jw_lit, jw_neg, jw_add, jw_sub, jw_mul, jw_lt, jw_le, jw_eq, jw_div, Int.toNat_natCast, if_pos, if_neg, if_true, if_false, Option.bind_some, Int.natCast_add, Int.natCast_mul, Int.cast_ofNat_Int, Int.reduceToNat, Int.reduceAdd, Int.reduceMul, Int.reduceSub, Int.reduceNeg, Nat.reduceAdd, Nat.reduceMul, e0, r1, d1]
        rw [show ((M : Int) - (k : Int)) + -1 = (M : Int) - ((k : Int) + 1) by omega]
      · rw [jhL_2]
        by_cases e : n = M - k
        · rw [if_pos ⟨rfl, e⟩, if_pos (by omega), if_neg (by omega), e]
        · rw [if_neg (by omega), q2 n hn]
          by_cases f : M < n + k ∧ n ≤ M
          · rw [if_pos f, if_pos (show M < n + (k + 1) ∧ n ≤ M by omega)]
          · rw [if_neg f, if_neg (show ¬ (M < n + (k + 1) ∧ n ≤ M) by omega)]
    · have r2 := q2 (M - k - s) (by omega)
      rw [if_neg (by omega)] at r2
      have w2 := hb (M - k - s)
      have d2 : (10 * W (M - k - s)).tdiv 10 = W (M - k - s) := Int.mul_tdiv_cancel_left _ (by omega)
      have e1 : ((M : Int) - (k : Int) - (s : Int)).toNat = M - k - s := by omega
      refine ⟨jhL x 81 (M - k) (jw (W (M - k) * (10 - t) + W (M - k - s) * t)), ?_, eFr_L (S := fun o _ => o = 80 ∨ o = 81) q1 (Or.inr rfl) _, q0, fun n hn => ?_⟩
      · simp only [fCr_add_l29, fCr_add_l29_b, fCr_add_l29_j57]
        simp (disch := omega) only [Bool.false_eq_true, jz_lit, jz_neg, jz_nat, jz_add, jz_sub, jz_mul, jz_lt, jz_le, jz_eq, jz_ix, jin_z, jz_div, jzw, jwz, jw_lit, jw_neg, jw_add, jw_sub, jw_mul, jw_lt, jw_le, jw_eq, jw_div, Int.toNat_natCast, if_pos, if_neg, if_true, if_false, Option.bind_some, Int.natCast_add, Int.natCast_mul, Int.cast_ofNat_Int, Int.reduceToNat, Int.reduceAdd, Int.reduceMul, Int.reduceSub, Int.reduceNeg, Nat.reduceAdd, Nat.reduceMul, e0, r1, r2, e1, d1, d2]
        rw [show ((M : Int) - (k : Int)) + -1 = (M : Int) - ((k : Int) + 1) by omega]
      · rw [jhL_2]
        by_cases e : n = M - k
        · rw [if_pos ⟨rfl, e⟩, if_pos (by omega), if_pos (by omega), e]
        · rw [if_neg (by omega), q2 n hn]
          by_cases f : M < n + k ∧ n ≤ M
          · rw [if_pos f, if_pos (show M < n + (k + 1) ∧ n ≤ M by omega)]
          · rw [if_neg f, if_neg (show ¬ (M < n + (k + 1) ∧ n ≤ M) by omega)]
  · rintro x ⟨q1, q0, q2⟩
    refine ⟨x, ?_, q1, q0, fun n hn => ?_⟩
    · simp only [fCr_add_l29, fCr_add_l29_b]
      simp (disch := omega) only [Bool.false_eq_true, jz_lit, jz_neg, jz_nat, jz_add, jz_sub, jz_mul, jz_lt, jz_le, jz_eq, jz_ix, jin_z, jz_div, jzw, jwz, jw_lit, jw_neg, jw_add, jw_sub, jw_mul, jw_lt, jw_le, jw_eq, jw_div, Int.toNat_natCast, if_pos, if_neg, if_true, if_false, Option.bind_some, Int.natCast_add, Int.natCast_mul, Int.cast_ofNat_Int, Int.reduceToNat, Int.reduceAdd, Int.reduceMul, Int.reduceSub, Int.reduceNeg, Nat.reduceAdd, Nat.reduceMul]
    · rw [q2 n hn]
      by_cases e : n ≤ M
      · rw [if_pos (by omega), if_pos e]
      · rw [if_neg (by omega), if_neg e]
end EH
