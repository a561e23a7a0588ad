/-! Calls: mean, full, far, letter -/
/-- by how many of ten k comes, did cards go to s -/
def eW (D S : jD) (s k : Nat) : Int := if s.testBit k then D 3 k else eTens D S k
section EM
variable {p d g : Nat} {D S : jD} {h : jH}
theorem eW_b {s k : Nat} (b : bV g D) (hk : k < g) : 0 ≤ eW D S s k ∧ eW D S s k ≤ 10 := by
  unfold eW
  split
  · have := b.2.2.2.1 k hk; omega
  · exact eTens_b b hk
theorem eW_0 : eW D S 0 = eTens D S := by
  funext k
  unfold eW
  simp
theorem sPy_comesWith {s k : Nat} (b : bV g D) (c : cV p g D h) (bs : bS g S) (cs : cS 11 S h) (hk : k < g) (hs : s < 256) : fPy_comesWith p (jz s) (jz k) h = some (jz (eW D S s k)) := by
  have b0 := b.1
  have c5 := c.2.2.2.1
  unfold fPy_comesWith eW
  cases ht : s.testBit k with
  | true => simp (disch := omega) only [Bool.false_eq_true, jz_lit, jz_neg, jz_nat, jz_add, jz_sub, jz_mul, jz_lt, jz_le, jz_eq, jz_ix, jin_z, jz_div, jzw, jwz, jw_lit, jw_neg, jw_add, jw_sub, jw_mul, jw_lt, jw_le, jw_eq, jw_div, Int.toNat_natCast, if_pos, if_neg, if_true, if_false, Option.bind_some, Int.natCast_add, Int.natCast_mul, Int.cast_ofNat_Int, Int.reduceToNat, Int.reduceAdd, Int.reduceMul, Int.reduceSub, Int.reduceNeg, Nat.reduceAdd, Nat.reduceMul, jbit_at hs (show k < 8 by omega), ht, c5]
  | false => simp (disch := omega) only [Bool.false_eq_true, jz_lit, jz_neg, jz_nat, jz_add, jz_sub, jz_mul, jz_lt, jz_le, jz_eq, jz_ix, jin_z, jz_div, jzw, jwz, jw_lit, jw_neg, jw_add, jw_sub, jw_mul, jw_lt, jw_le, jw_eq, jw_div, Int.toNat_natCast, if_pos, if_neg, if_true, if_false, Option.bind_some, Int.natCast_add, Int.natCast_mul, Int.cast_ofNat_Int, Int.reduceToNat, Int.reduceAdd, Int.reduceMul, Int.reduceSub, Int.reduceNeg, Nat.reduceAdd, Nat.reduceMul, jbit_at hs (show k < 8 by omega), ht, sPy_comesNow b c bs cs hk]
def eMean (T : Nat → Int) (D : jD) (g : Nat) : Int := eSum (fun k => T k * D 5 k) g
theorem sPy_meanTenths {s : Nat} (b : bV g D) (c : cV p g D h) (bs : bS g S) (cs : cS 11 S h) (hs : s < 256) : fPy_meanTenths p (jz s) h = some (jz (eMean (eW D S s) D g)) := by
  have b0 := b.1
  have c0 := c.1
  have c5 := c.2.2.2.1
  unfold fPy_meanTenths
  have hl : jlim (fPy_meanTenths_l4 p (jz s) h) (0, 0) = some (jz (eMean (eW D S s) D g)) := by
    refine jlim_go (fun k => (jz (eMean (eW D S s) D k), jz k)) g rfl (fun i hi => ?_) ?_
    · simp only [fPy_meanTenths_l4, fPy_meanTenths_l4_b, c0, eMean, eSum]
      simp (disch := omega) only [Bool.false_eq_true, jz_lit, jz_neg, jz_nat, jz_add, jz_sub, jz_mul, jz_lt, jz_le, jz_eq, jz_ix, jin_z, jz_div, jzw, jwz, jw_lit, jw_neg, jw_add, jw_sub, jw_mul, jw_lt, jw_le, jw_eq, jw_div, Int.toNat_natCast, if_pos, if_neg, if_true, if_false, Option.bind_some, Int.natCast_add, Int.natCast_mul, Int.cast_ofNat_Int, Int.reduceToNat, Int.reduceAdd, Int.reduceMul, Int.reduceSub, Int.reduceNeg, Nat.reduceAdd, Nat.reduceMul, sPy_comesWith b c bs cs hi hs, c5]
    · simp only [fPy_meanTenths_l4, fPy_meanTenths_l4_b, c0]
      simp (disch := omega) only [Bool.false_eq_true, jz_lit, jz_neg, jz_nat, jz_add, jz_sub, jz_mul, jz_lt, jz_le, jz_eq, jz_ix, jin_z, jz_div, jzw, jwz, jw_lit, jw_neg, jw_add, jw_sub, jw_mul, jw_lt, jw_le, jw_eq, jw_div, Int.toNat_natCast, if_pos, if_neg, if_true, if_false, Option.bind_some, Int.natCast_add, Int.natCast_mul, Int.cast_ofNat_Int, Int.reduceToNat, Int.reduceAdd, Int.reduceMul, Int.reduceSub, Int.reduceNeg, Nat.reduceAdd, Nat.reduceMul]
  rw [hl]
  rfl
theorem sM_meanTens (b : bV g D) (m : mV g D h) (bs : bS g S) (ms : mS S h) : fM_meanTens h = some (jz (eMean (eTens D S) D g)) := by
  have b0 := b.1
  unfold fM_meanTens
  have hl : jlim (fM_meanTens_l4 h) (0, 0) = some (jz (eMean (eTens D S) D g)) := by
    refine jlim_go (fun k => (jz (eMean (eTens D S) D k), jz k)) g rfl (fun i hi => ?_) ?_
    · simp only [fM_meanTens_l4, fM_meanTens_l4_b, sM_guestMany m, eMean, eSum]
      simp (disch := omega) only [Bool.false_eq_true, jz_lit, jz_neg, jz_nat, jz_add, jz_sub, jz_mul, jz_lt, jz_le, jz_eq, jz_ix, jin_z, jz_div, jzw, jwz, jw_lit, jw_neg, jw_add, jw_sub, jw_mul, jw_lt, jw_le, jw_eq, jw_div, Int.toNat_natCast, if_pos, if_neg, if_true, if_false, Option.bind_some, Int.natCast_add, Int.natCast_mul, Int.cast_ofNat_Int, Int.reduceToNat, Int.reduceAdd, Int.reduceMul, Int.reduceSub, Int.reduceNeg, Nat.reduceAdd, Nat.reduceMul, sM_tensOf b m bs ms hi, sM_sizeOf b m hi]
    · simp only [fM_meanTens_l4, fM_meanTens_l4_b, sM_guestMany m]
      simp (disch := omega) only [Bool.false_eq_true, jz_lit, jz_neg, jz_nat, jz_add, jz_sub, jz_mul, jz_lt, jz_le, jz_eq, jz_ix, jin_z, jz_div, jzw, jwz, jw_lit, jw_neg, jw_add, jw_sub, jw_mul, jw_lt, jw_le, jw_eq, jw_div, Int.toNat_natCast, if_pos, if_neg, if_true, if_false, Option.bind_some, Int.natCast_add, Int.natCast_mul, Int.cast_ofNat_Int, Int.reduceToNat, Int.reduceAdd, Int.reduceMul, Int.reduceSub, Int.reduceNeg, Nat.reduceAdd, Nat.reduceMul]
  rw [hl]
  rfl
/-- how likely it is what was said, when who comes by t comes by fl t -/
def eFl (D : jD) (more : Int) (k : Nat) : Int := if 10 < D 3 k + more then 10 else D 3 k + more
def eLik (D S : jD) (more : Int) : Nat → Int
  | 0 => 1
  | n + 1 => eLik D S more n * (if S 1 n = 2 then eFl D more n else if S 1 n = 3 then 10 - eFl D more n else 1)
theorem eFl_b {more : Int} {k : Nat} (b : bV g D) (hm : 0 ≤ more ∧ more ≤ 9) (hk : k < g) : 0 ≤ eFl D more k ∧ eFl D more k ≤ 10 := by
  have := b.2.2.2.1 k hk
  unfold eFl
  split <;> omega
theorem eLik_b {more : Int} (b : bV g D) (hm : 0 ≤ more ∧ more ≤ 9) : ∀ n, n ≤ g → 0 ≤ eLik D S more n ∧ eLik D S more n ≤ (10 : Int) ^ n := by
  intro n
  induction n with
  | zero => intro _; simp [eLik]
  | succ n ih =>
    intro hn
    have h1 := ih (by omega)
    have h2 := eFl_b b hm (show n < g by omega)
    have h0 : (0 : Int) < (10 : Int) ^ n := Int.pow_pos (by omega)
    unfold eLik
    rw [Int.pow_succ]
    have h3 : 0 ≤ (if S 1 n = 2 then eFl D more n else if S 1 n = 3 then 10 - eFl D more n else 1) ∧ (if S 1 n = 2 then eFl D more n else if S 1 n = 3 then 10 - eFl D more n else 1) ≤ 10 := by
      split
      · exact h2
      · split <;> omega
    refine ⟨Int.mul_nonneg h1.1 h3.1, ?_⟩
    have h4 := Int.mul_le_mul_of_nonneg_right h1.2 h3.1
    have h5 := Int.mul_le_mul_of_nonneg_left h3.2 (show 0 ≤ (10 : Int) ^ n by omega)
    omega
theorem sM_likely {more : Int} (b : bV g D) (m : mV g D h) (bs : bS g S) (ms : mS S h) (hm : 0 ≤ more ∧ more ≤ 9) : fM_likely (jz more) h = some (jw (eLik D S more g)) := by
  have b0 := b.1
  unfold fM_likely
  have hl : jlim (fM_likely_l5 (jz more) h) (1, 0) = some (jw (eLik D S more g)) := by
    refine jlim_go (fun k => (jw (eLik D S more k), jz k)) g rfl (fun i hi => ?_) ?_
    · have b3 := b.2.2.2.1 i hi
      have bs3 := bs.2.2.2.2 i (by omega)
      have e2 : ∀ x : Int32, fM_likely_l5_j40 (jz more) (jw (eLik D S more i)) (jz i) (jz (eFl D more i)) h = some (.inl (jw (eLik D S more (i + 1)), jz ((i + 1 : Nat) : Int))) := by
        intro _
        have hf := eFl_b b hm hi
        have hw := sM_howOf ms (show i < 8 by omega)
        simp only [fM_likely_l5_j40, fM_likely_l5_j58, fM_likely_l5_j77, eLik]
        by_cases c1 : S 1 i = 2
        · simp (disch := omega) only [Bool.false_eq_true, jz_lit, jz_neg, jz_nat, jz_add, jz_sub, jz_mul, jz_lt, jz_le, jz_eq, jz_ix, jin_z, jz_div, jzw, jwz, jw_lit, jw_neg, jw_add, jw_sub, jw_mul, jw_lt, jw_le, jw_eq, jw_div, Int.toNat_natCast, if_pos, if_neg, if_true, if_false, Option.bind_some, Int.natCast_add, Int.natCast_mul, Int.cast_ofNat_Int, Int.reduceToNat, Int.reduceAdd, Int.reduceMul, Int.reduceSub, Int.reduceNeg, Nat.reduceAdd, Nat.reduceMul, hw, c1]
        · by_cases c2 : S 1 i = 3
          · simp (disch := omega) only [Bool.false_eq_true, jz_lit, jz_neg, jz_nat, jz_add, jz_sub, jz_mul, jz_lt, jz_le, jz_eq, jz_ix, jin_z, jz_div, jzw, jwz, jw_lit, jw_neg, jw_add, jw_sub, jw_mul, jw_lt, jw_le, jw_eq, jw_div, Int.toNat_natCast, if_pos, if_neg, if_true, if_false, Option.bind_some, Int.natCast_add, Int.natCast_mul, Int.cast_ofNat_Int, Int.reduceToNat, Int.reduceAdd, Int.reduceMul, Int.reduceSub, Int.reduceNeg, Nat.reduceAdd, Nat.reduceMul, hw, c2]
          · simp (disch := omega) only [Bool.false_eq_true, jz_lit, jz_neg, jz_nat, jz_add, jz_sub, jz_mul, jz_lt, jz_le, jz_eq, jz_ix, jin_z, jz_div, jzw, jwz, jw_lit, jw_neg, jw_add, jw_sub, jw_mul, jw_lt, jw_le, jw_eq, jw_div, Int.toNat_natCast, if_pos, if_neg, if_true, if_false, Option.bind_some, Int.natCast_add, Int.natCast_mul, Int.cast_ofNat_Int, Int.reduceToNat, Int.reduceAdd, Int.reduceMul, Int.reduceSub, Int.reduceNeg, Nat.reduceAdd, Nat.reduceMul, hw, c1, c2, Int.mul_one]
      have e3 := e2 0
      simp only [fM_likely_l5, fM_likely_l5_b, sM_guestMany m]
      by_cases c : 10 < D 3 i + more
      · have ef : eFl D more i = 10 := by unfold eFl; rw [if_pos c]
        rw [ef] at e3
        simp (disch := omega) only [Bool.false_eq_true, jz_lit, jz_neg, jz_nat, jz_add, jz_sub, jz_mul, jz_lt, jz_le, jz_eq, jz_ix, jin_z, jz_div, jzw, jwz, jw_lit, jw_neg, jw_add, jw_sub, jw_mul, jw_lt, jw_le, jw_eq, jw_div, Int.toNat_natCast, if_pos, if_neg, if_true, if_false, Option.bind_some, Int.natCast_add, Int.natCast_mul, Int.cast_ofNat_Int, Int.reduceToNat, Int.reduceAdd, Int.reduceMul, Int.reduceSub, Int.reduceNeg, Nat.reduceAdd, Nat.reduceMul, sM_toldOf b m hi, e3]
      · have ef : eFl D more i = D 3 i + more := by unfold eFl; rw [if_neg c]
        rw [ef] at e3
        simp (disch := omega) only [Bool.false_eq_true, jz_lit, jz_neg, jz_nat, jz_add, jz_sub, jz_mul, jz_lt, jz_le, jz_eq, jz_ix, jin_z, jz_div, jzw, jwz, jw_lit, jw_neg, jw_add, jw_sub, jw_mul, jw_lt, jw_le, jw_eq, jw_div, Int.toNat_natCast, if_pos, if_neg, if_true, if_false, Option.bind_some, Int.natCast_add, Int.natCast_mul, Int.cast_ofNat_Int, Int.reduceToNat, Int.reduceAdd, Int.reduceMul, Int.reduceSub, Int.reduceNeg, Nat.reduceAdd, Nat.reduceMul, sM_toldOf b m hi, e3]
    · simp only [fM_likely_l5, fM_likely_l5_b, sM_guestMany m]
      simp (disch := omega) only [Bool.false_eq_true, jz_lit, jz_neg, jz_nat, jz_add, jz_sub, jz_mul, jz_lt, jz_le, jz_eq, jz_ix, jin_z, jz_div, jzw, jwz, jw_lit, jw_neg, jw_add, jw_sub, jw_mul, jw_lt, jw_le, jw_eq, jw_div, Int.toNat_natCast, if_pos, if_neg, if_true, if_false, Option.bind_some, Int.natCast_add, Int.natCast_mul, Int.cast_ofNat_Int, Int.reduceToNat, Int.reduceAdd, Int.reduceMul, Int.reduceSub, Int.reduceNeg, Nat.reduceAdd, Nat.reduceMul]
  rw [hl]
  rfl
theorem sPy_full (b : bV g D) (c : cV p g D h) (bs : bS g S) (cs : cS 11 S h) (ht : D 0 10 = 1) : jlim (fPy_fullMillionths_l7 p h) (1, 1, 0) = some (jw (eLik D S 0 g), jw (eLik D S (D 0 9) g)) := by
  have b0 := b.1
  have c0 := c.1
  have c5 := c.2.2.2.1
  have c9 := (c.2.2.1.2 ht).2.2
  have b2 := b.2.1
  have cs1 := cS11 cs
  refine jlim_go (fun k => (jw (eLik D S 0 k), jw (eLik D S (D 0 9) k), jz k)) g rfl (fun i hi => ?_) ?_
  · have b3 := b.2.2.2.1 i hi
    have bs3 := bs.2.2.2.2 i (by omega)
    have e1 : fMt_min (jz 10) (jz (D 3 i + D 0 9)) = jz (eFl D (D 0 9) i) := by
      unfold fMt_min eFl
      by_cases q : D 3 i + D 0 9 < 10
      · rw [if_neg (show ¬ 10 < D 3 i + D 0 9 by omega)]; simp (disch := omega) only [Bool.false_eq_true, jz_lit, jz_neg, jz_nat, jz_add, jz_sub, jz_mul, jz_lt, jz_le, jz_eq, jz_ix, jin_z, jz_div, jzw, jwz, jw_lit, jw_neg, jw_add, jw_sub, jw_mul, jw_lt, jw_le, jw_eq, jw_div, Int.toNat_natCast, if_pos, if_neg, if_true, if_false, Option.bind_some, Int.natCast_add, Int.natCast_mul, Int.cast_ofNat_Int, Int.reduceToNat, Int.reduceAdd, Int.reduceMul, Int.reduceSub, Int.reduceNeg, Nat.reduceAdd, Nat.reduceMul]
      · by_cases q2 : D 3 i + D 0 9 = 10
        · rw [if_neg (show ¬ 10 < D 3 i + D 0 9 by omega)]; simp (disch := omega) only [Bool.false_eq_true, jz_lit, jz_neg, jz_nat, jz_add, jz_sub, jz_mul, jz_lt, jz_le, jz_eq, jz_ix, jin_z, jz_div, jzw, jwz, jw_lit, jw_neg, jw_add, jw_sub, jw_mul, jw_lt, jw_le, jw_eq, jw_div, Int.toNat_natCast, if_pos, if_neg, if_true, if_false, Option.bind_some, Int.natCast_add, Int.natCast_mul, Int.cast_ofNat_Int, Int.reduceToNat, Int.reduceAdd, Int.reduceMul, Int.reduceSub, Int.reduceNeg, Nat.reduceAdd, Nat.reduceMul, q2]
        · rw [if_pos (show 10 < D 3 i + D 0 9 by omega)]; simp (disch := omega) only [Bool.false_eq_true, jz_lit, jz_neg, jz_nat, jz_add, jz_sub, jz_mul, jz_lt, jz_le, jz_eq, jz_ix, jin_z, jz_div, jzw, jwz, jw_lit, jw_neg, jw_add, jw_sub, jw_mul, jw_lt, jw_le, jw_eq, jw_div, Int.toNat_natCast, if_pos, if_neg, if_true, if_false, Option.bind_some, Int.natCast_add, Int.natCast_mul, Int.cast_ofNat_Int, Int.reduceToNat, Int.reduceAdd, Int.reduceMul, Int.reduceSub, Int.reduceNeg, Nat.reduceAdd, Nat.reduceMul]
    have e2 : eFl D 0 i = D 3 i := by unfold eFl; rw [if_neg (by omega)]; omega
    have ef := eFl_b b (show 0 ≤ D 0 9 ∧ D 0 9 ≤ 9 by omega) hi
    simp only [fPy_fullMillionths_l7, fPy_fullMillionths_l7_b, fPy_fullMillionths_l7_j116, c0, eLik]
    by_cases c1 : S 1 i = 2
    · simp (disch := omega) only [Bool.false_eq_true, jz_lit, jz_neg, jz_nat, jz_add, jz_sub, jz_mul, jz_lt, jz_le, jz_eq, jz_ix, jin_z, jz_div, jzw, jwz, jw_lit, jw_neg, jw_add, jw_sub, jw_mul, jw_lt, jw_le, jw_eq, jw_div, Int.toNat_natCast, if_pos, if_neg, if_true, if_false, Option.bind_some, Int.natCast_add, Int.natCast_mul, Int.cast_ofNat_Int, Int.reduceToNat, Int.reduceAdd, Int.reduceMul, Int.reduceSub, Int.reduceNeg, Nat.reduceAdd, Nat.reduceMul, cs1, c1, c5, c9, e1, e2]
    · by_cases c2 : S 1 i = 3
      · simp (disch := omega) only [Bool.false_eq_true, jz_lit, jz_neg, jz_nat, jz_add, jz_sub, jz_mul, jz_lt, jz_le, jz_eq, jz_ix, jin_z, jz_div, jzw, jwz, jw_lit, jw_neg, jw_add, jw_sub, jw_mul, jw_lt, jw_le, jw_eq, jw_div, Int.toNat_natCast, if_pos, if_neg, if_true, if_false, Option.bind_some, Int.natCast_add, Int.natCast_mul, Int.cast_ofNat_Int, Int.reduceToNat, Int.reduceAdd, Int.reduceMul, Int.reduceSub, Int.reduceNeg, Nat.reduceAdd, Nat.reduceMul, cs1, c2, c5, c9, e1, e2]
      · simp (disch := omega) only [Bool.false_eq_true, jz_lit, jz_neg, jz_nat, jz_add, jz_sub, jz_mul, jz_lt, jz_le, jz_eq, jz_ix, jin_z, jz_div, jzw, jwz, jw_lit, jw_neg, jw_add, jw_sub, jw_mul, jw_lt, jw_le, jw_eq, jw_div, Int.toNat_natCast, if_pos, if_neg, if_true, if_false, Option.bind_some, Int.natCast_add, Int.natCast_mul, Int.cast_ofNat_Int, Int.reduceToNat, Int.reduceAdd, Int.reduceMul, Int.reduceSub, Int.reduceNeg, Nat.reduceAdd, Nat.reduceMul, cs1, c1, c2, c5, c9, Int.mul_one]
  · simp only [fPy_fullMillionths_l7, fPy_fullMillionths_l7_b, c0]
    simp (disch := omega) only [Bool.false_eq_true, jz_lit, jz_neg, jz_nat, jz_add, jz_sub, jz_mul, jz_lt, jz_le, jz_eq, jz_ix, jin_z, jz_div, jzw, jwz, jw_lit, jw_neg, jw_add, jw_sub, jw_mul, jw_lt, jw_le, jw_eq, jw_div, Int.toNat_natCast, if_pos, if_neg, if_true, if_false, Option.bind_some, Int.natCast_add, Int.natCast_mul, Int.cast_ofNat_Int, Int.reduceToNat, Int.reduceAdd, Int.reduceMul, Int.reduceSub, Int.reduceNeg, Nat.reduceAdd, Nat.reduceMul]
end EM
theorem call_11 : jcal_11 jInv := by
  intro p d q h V
  have V0 := V
  obtain ⟨hpd, hq, v1, v2, v3, v4, v5, v6, g, D, S, L, ⟨b, c, m, w1, w2, w3, w4⟩, ⟨bs, cs, ms⟩, -⟩ := V
  have ct := c.2.2.1.1
  have mt := m.2.2.1.1
  rcases eTold b with ht | ht
  · refine ⟨jz (-1), ?_, jz (-1), ?_, rfl, V0⟩
    · unfold fA_mean; rw [ct, ht]; simp (disch := omega) only [Bool.false_eq_true, jz_lit, jz_neg, jz_nat, jz_add, jz_sub, jz_mul, jz_lt, jz_le, jz_eq, jz_ix, jin_z, jz_div, jzw, jwz, jw_lit, jw_neg, jw_add, jw_sub, jw_mul, jw_lt, jw_le, jw_eq, jw_div, Int.toNat_natCast, if_pos, if_neg, if_true, if_false, Option.bind_some, Int.natCast_add, Int.natCast_mul, Int.cast_ofNat_Int, Int.reduceToNat, Int.reduceAdd, Int.reduceMul, Int.reduceSub, Int.reduceNeg, Nat.reduceAdd, Nat.reduceMul]
    · unfold fM_mean; rw [mt, ht]; simp (disch := omega) only [Bool.false_eq_true, jz_lit, jz_neg, jz_nat, jz_add, jz_sub, jz_mul, jz_lt, jz_le, jz_eq, jz_ix, jin_z, jz_div, jzw, jwz, jw_lit, jw_neg, jw_add, jw_sub, jw_mul, jw_lt, jw_le, jw_eq, jw_div, Int.toNat_natCast, if_pos, if_neg, if_true, if_false, Option.bind_some, Int.natCast_add, Int.natCast_mul, Int.cast_ofNat_Int, Int.reduceToNat, Int.reduceAdd, Int.reduceMul, Int.reduceSub, Int.reduceNeg, Nat.reduceAdd, Nat.reduceMul]
  · have s1 := sPy_meanTenths (s := 0) b c bs cs (by omega)
    rw [eW_0, show jz ((0 : Nat) : Int) = jz 0 from rfl] at s1
    refine ⟨jz (eMean (eTens D S) D g * 10), ?_, jz (eMean (eTens D S) D g * 10), ?_, rfl, V0⟩
    · unfold fA_mean; rw [ct, ht]; simp (disch := omega) only [Bool.false_eq_true, jz_lit, jz_neg, jz_nat, jz_add, jz_sub, jz_mul, jz_lt, jz_le, jz_eq, jz_ix, jin_z, jz_div, jzw, jwz, jw_lit, jw_neg, jw_add, jw_sub, jw_mul, jw_lt, jw_le, jw_eq, jw_div, Int.toNat_natCast, if_pos, if_neg, if_true, if_false, Option.bind_some, Int.natCast_add, Int.natCast_mul, Int.cast_ofNat_Int, Int.reduceToNat, Int.reduceAdd, Int.reduceMul, Int.reduceSub, Int.reduceNeg, Nat.reduceAdd, Nat.reduceMul, s1]
    · unfold fM_mean; rw [mt, ht]; simp (disch := omega) only [Bool.false_eq_true, jz_lit, jz_neg, jz_nat, jz_add, jz_sub, jz_mul, jz_lt, jz_le, jz_eq, jz_ix, jin_z, jz_div, jzw, jwz, jw_lit, jw_neg, jw_add, jw_sub, jw_mul, jw_lt, jw_le, jw_eq, jw_div, Int.toNat_natCast, if_pos, if_neg, if_true, if_false, Option.bind_some, Int.natCast_add, Int.natCast_mul, Int.cast_ofNat_Int, Int.reduceToNat, Int.reduceAdd, Int.reduceMul, Int.reduceSub, Int.reduceNeg, Nat.reduceAdd, Nat.reduceMul, sM_meanTens b m bs ms]
      rw [Int.mul_comm]
theorem call_22 : jcal_22 jInv := by
  intro p d q h V
  have V0 := V
  obtain ⟨hpd, hq, v1, v2, v3, v4, v5, v6, g, D, S, L, ⟨b, c, m, w1, w2, w3, w4⟩, ⟨bs, cs, ms⟩, -⟩ := V
  have ct := c.2.2.1.1
  have mt := m.2.2.1.1
  have b2 := b.2.1
  rcases eTold b with ht | ht
  · refine ⟨jz (-1), ?_, jz (-1), ?_, rfl, V0⟩
    · unfold fA_full; rw [ct, ht]; simp (disch := omega) only [Bool.false_eq_true, jz_lit, jz_neg, jz_nat, jz_add, jz_sub, jz_mul, jz_lt, jz_le, jz_eq, jz_ix, jin_z, jz_div, jzw, jwz, jw_lit, jw_neg, jw_add, jw_sub, jw_mul, jw_lt, jw_le, jw_eq, jw_div, Int.toNat_natCast, if_pos, if_neg, if_true, if_false, Option.bind_some, Int.natCast_add, Int.natCast_mul, Int.cast_ofNat_Int, Int.reduceToNat, Int.reduceAdd, Int.reduceMul, Int.reduceSub, Int.reduceNeg, Nat.reduceAdd, Nat.reduceMul]
    · unfold fM_full; rw [mt, ht]; simp (disch := omega) only [Bool.false_eq_true, jz_lit, jz_neg, jz_nat, jz_add, jz_sub, jz_mul, jz_lt, jz_le, jz_eq, jz_ix, jin_z, jz_div, jzw, jwz, jw_lit, jw_neg, jw_add, jw_sub, jw_mul, jw_lt, jw_le, jw_eq, jw_div, Int.toNat_natCast, if_pos, if_neg, if_true, if_false, Option.bind_some, Int.natCast_add, Int.natCast_mul, Int.cast_ofNat_Int, Int.reduceToNat, Int.reduceAdd, Int.reduceMul, Int.reduceSub, Int.reduceNeg, Nat.reduceAdd, Nat.reduceMul]
  · have s1 := sPy_full b c bs cs ht
    have s2 := sM_likely (more := 0) b m bs ms (by omega)
    have s3 := sM_likely (more := D 0 9) b m bs ms (by omega)
    have m9 := (m.2.2.1.2 ht).2.2
    have p9 := p10_b b.1
    have l1 := eLik_b (S := S) b (show (0 : Int) ≤ 0 ∧ (0 : Int) ≤ 9 by omega) g (Nat.le_refl _)
    have l2 := eLik_b (S := S) b (show (0 : Int) ≤ D 0 9 ∧ D 0 9 ≤ 9 by omega) g (Nat.le_refl _)
    rw [show ((1 : Int64), (1 : Int64), (0 : Int32)) = (jw 1, jw 1, jz 0) from rfl] at s1
    by_cases e : eLik D S 0 g + eLik D S (D 0 9) g = 0
    · refine ⟨jz 500000, ?_, jz 500000, ?_, rfl, V0⟩
      · unfold fA_full fPy_fullMillionths; rw [ct, ht]; simp (disch := omega) only [Bool.false_eq_true, jz_lit, jz_neg, jz_nat, jz_add, jz_sub, jz_mul, jz_lt, jz_le, jz_eq, jz_ix, jin_z, jz_div, jzw, jwz, jw_lit, jw_neg, jw_add, jw_sub, jw_mul, jw_lt, jw_le, jw_eq, jw_div, Int.toNat_natCast, if_pos, if_neg, if_true, if_false, Option.bind_some, Int.natCast_add, Int.natCast_mul, Int.cast_ofNat_Int, Int.reduceToNat, Int.reduceAdd, Int.reduceMul, Int.reduceSub, Int.reduceNeg, Nat.reduceAdd, Nat.reduceMul, s1]
      · unfold fM_full; rw [mt, ht]; simp (disch := omega) only [Bool.false_eq_true, jz_lit, jz_neg, jz_nat, jz_add, jz_sub, jz_mul, jz_lt, jz_le, jz_eq, jz_ix, jin_z, jz_div, jzw, jwz, jw_lit, jw_neg, jw_add, jw_sub, jw_mul, jw_lt, jw_le, jw_eq, jw_div, Int.toNat_natCast, if_pos, if_neg, if_true, if_false, Option.bind_some, Int.natCast_add, Int.natCast_mul, Int.cast_ofNat_Int, Int.reduceToNat, Int.reduceAdd, Int.reduceMul, Int.reduceSub, Int.reduceNeg, Nat.reduceAdd, Nat.reduceMul, s2, m9, s3]
    · refine ⟨jz ((eLik D S (D 0 9) g * 1000000).tdiv (eLik D S 0 g + eLik D S (D 0 9) g)), ?_, jz ((eLik D S (D 0 9) g * 1000000).tdiv (eLik D S 0 g + eLik D S (D 0 9) g)), ?_, rfl, V0⟩
      · unfold fA_full fPy_fullMillionths; rw [ct, ht]; simp (disch := omega) only [Bool.false_eq_true, jz_lit, jz_neg, jz_nat, jz_add, jz_sub, jz_mul, jz_lt, jz_le, jz_eq, jz_ix, jin_z, jz_div, jzw, jwz, jw_lit, jw_neg, jw_add, jw_sub, jw_mul, jw_lt, jw_le, jw_eq, jw_div, Int.toNat_natCast, if_pos, if_neg, if_true, if_false, Option.bind_some, Int.natCast_add, Int.natCast_mul, Int.cast_ofNat_Int, Int.reduceToNat, Int.reduceAdd, Int.reduceMul, Int.reduceSub, Int.reduceNeg, Nat.reduceAdd, Nat.reduceMul, s1]
      · unfold fM_full; rw [mt, ht]; simp (disch := omega) only [Bool.false_eq_true, jz_lit, jz_neg, jz_nat, jz_add, jz_sub, jz_mul, jz_lt, jz_le, jz_eq, jz_ix, jin_z, jz_div, jzw, jwz, jw_lit, jw_neg, jw_add, jw_sub, jw_mul, jw_lt, jw_le, jw_eq, jw_div, Int.toNat_natCast, if_pos, if_neg, if_true, if_false, Option.bind_some, Int.natCast_add, Int.natCast_mul, Int.cast_ofNat_Int, Int.reduceToNat, Int.reduceAdd, Int.reduceMul, Int.reduceSub, Int.reduceNeg, Nat.reduceAdd, Nat.reduceMul, s2, m9, s3]
        rw [Int.mul_comm 1000000]
/-! FAR sets -/
def eCl (P : Nat → Nat) (g c : Nat) : Prop := ∀ i, i < g → c.testBit i = true → P i ||| c = c
def eSeq (P : Nat → Nat) (s : Nat) : Nat → Nat
  | 0 => s
  | n + 1 => if (eSeq P s n).testBit n then eSeq P s n ||| P n else eSeq P s n
def eIt (F : Nat → Nat) : Nat → Nat → Nat
  | 0, s => s
  | n + 1, s => F (eIt F n s)
/-- how many bits below g -/
def eCb (s g : Nat) : Nat := ((List.range g).filter (fun i => s.testBit i)).length
theorem eCb_s (s g : Nat) : eCb s (g + 1) = eCb s g + (if s.testBit g then 1 else 0) := by
  unfold eCb
  rw [List.range_succ, List.filter_append, List.length_append]
  cases ht : s.testBit g <;> simp [ht]
theorem eCb_le (s : Nat) : ∀ g, eCb s g ≤ g := by
  intro g
  induction g with
  | zero => exact Nat.le_refl _
  | succ g ih => rw [eCb_s]; split <;> omega
theorem eCb_mono {s t : Nat} (h : s ||| t = t) : ∀ g, eCb s g ≤ eCb t g := by
  intro g
  induction g with
  | zero => exact Nat.le_refl _
  | succ g ih =>
    rw [eCb_s, eCb_s]
    have := eSub_bit.mp h g
    by_cases e : s.testBit g = true
    · rw [if_pos e, if_pos (this e)]; omega
    · rw [if_neg e]; split <;> omega
theorem eCb_strict {s t : Nat} (h : s ||| t = t) : ∀ g, t < 2 ^ g → s ≠ t → eCb s g < eCb t g := by
  intro g ht hne
  have : ∃ i, i < g ∧ s.testBit i = false ∧ t.testBit i = true := by
    apply Classical.byContradiction
    intro hno
    apply hne
    apply Nat.eq_of_testBit_eq
    intro i
    by_cases hi : i < g
    · cases hs : s.testBit i with
      | true => exact (eSub_bit.mp h i hs).symm
      | false =>
        cases htt : t.testBit i with
        | true => exact absurd ⟨i, hi, hs, htt⟩ hno
        | false => rfl
    · have e2 : t.testBit i = false := Nat.testBit_lt_two_pow (Nat.lt_of_lt_of_le ht (Nat.pow_le_pow_right (by omega) (by omega)))
      cases hs : s.testBit i with
      | true => rw [← eSub_bit.mp h i hs]
      | false => rw [e2]
  obtain ⟨i, hi, h1, h2⟩ := this
  clear ht hne
  induction g with
  | zero => omega
  | succ g ih =>
    rw [eCb_s, eCb_s]
    by_cases e : i = g
    · subst e
      have := eCb_mono h i
      simp only [h1, h2]
      simp
      omega
    · have := ih (by omega)
      have h3 := eSub_bit.mp h g
      by_cases e : s.testBit g = true
      · rw [if_pos e, if_pos (h3 e)]; omega
      · rw [if_neg e]; split <;> omega
theorem eIt_cl {P F : Nat → Nat} {g : Nat} (h1 : ∀ s, s ||| F s = F s) (h2 : ∀ s, s < 2 ^ g → F s < 2 ^ g) (h3 : ∀ s, s < 2 ^ g → ¬ eCl P g s → F s ≠ s) (h4 : ∀ s, eCl P g s → F s = s) {s : Nat} (hs : s < 2 ^ g) (hc : 1 ≤ eCb s g) : ∀ n, eIt F n s < 2 ^ g ∧ s ||| eIt F n s = eIt F n s ∧ (eCl P g (eIt F n s) ∨ n + 1 ≤ eCb (eIt F n s) g) := by
  intro n
  induction n with
  | zero => exact ⟨hs, Nat.or_self s, Or.inr (by simpa [eIt] using hc)⟩
  | succ n ih =>
    obtain ⟨a1, a2, a3⟩ := ih
    refine ⟨h2 _ a1, ?_, ?_⟩
    · show s ||| F (eIt F n s) = F (eIt F n s)
      refine eSub_bit.mpr (fun i hi => eSub_bit.mp (h1 _) i (eSub_bit.mp a2 i hi))
    · by_cases c : eCl P g (eIt F n s)
      · left
        show eCl P g (F (eIt F n s))
        rw [h4 _ c]
        exact c
      · right
        have := eCb_strict (h1 (eIt F n s)) g (h2 _ a1) (fun e => h3 _ a1 c e.symm)
        show n + 1 + 1 ≤ eCb (F (eIt F n s)) g
        rcases a3 with a3 | a3
        · exact absurd a3 c
        · omega
theorem eIt_end {P F : Nat → Nat} {g : Nat} (h1 : ∀ s, s ||| F s = F s) (h2 : ∀ s, s < 2 ^ g → F s < 2 ^ g) (h3 : ∀ s, s < 2 ^ g → ¬ eCl P g s → F s ≠ s) (h4 : ∀ s, eCl P g s → F s = s) {s : Nat} (hs : s < 2 ^ g) (hc : 1 ≤ eCb s g) {n : Nat} (hn : g ≤ n) : eCl P g (eIt F n s) ∧ s ||| eIt F n s = eIt F n s := by
  have := eIt_cl h1 h2 h3 h4 hs hc n
  refine ⟨?_, this.2.1⟩
  rcases this.2.2 with a | a
  · exact a
  · have := eCb_le (eIt F n s) g; omega
theorem eIt_min {P F : Nat → Nat} {g : Nat} (h5 : ∀ s c, eCl P g c → s ||| c = c → F s ||| c = c) {s c : Nat} (hc : eCl P g c) (hs : s ||| c = c) : ∀ n, eIt F n s ||| c = c := by
  intro n
  induction n with
  | zero => exact hs
  | succ n ih => exact h5 _ _ hc ih
theorem eSub_anti {a b : Nat} (h1 : a ||| b = b) (h2 : b ||| a = a) : a = b := by
  rw [← h1, Nat.or_comm]; exact h2.symm
theorem jpl_eq (P : Nat → Nat) (s : Nat) : ∀ n, jpl P s n = s ||| ePul P s n := by
  intro n
  induction n with
  | zero => simp [jpl, ePul]
  | succ n ih =>
    unfold jpl ePul
    split
    · rw [ih, Nat.or_assoc]
    · exact ih
theorem eSub_self_or {a b : Nat} : a ||| (a ||| b) = a ||| b := by rw [← Nat.or_assoc, Nat.or_self]
theorem eSeq_up (P : Nat → Nat) (s : Nat) : ∀ n, s ||| eSeq P s n = eSeq P s n := by
  intro n
  induction n with
  | zero => exact Nat.or_self s
  | succ n ih =>
    unfold eSeq
    split
    · rw [← Nat.or_assoc, ih]
    · exact ih
theorem eSeq_has (P : Nat → Nat) (s : Nat) : ∀ n i, i < n → s.testBit i = true → P i ||| eSeq P s n = eSeq P s n := by
  intro n
  induction n with
  | zero => intro i hi; omega
  | succ n ih =>
    intro i hi hs
    unfold eSeq
    by_cases e : i = n
    · subst e
      have := eSub_bit.mp (eSeq_up P s i) i hs
      rw [if_pos this, Nat.or_comm (eSeq P s i)]
      exact eSub_self_or
    · have := ih i (by omega) hs
      split
      · rw [← Nat.or_assoc, this]
      · exact this
theorem eSeq_min {P : Nat → Nat} {g s c : Nat} (hc : eCl P g c) (hs : s ||| c = c) : ∀ n, n ≤ g → eSeq P s n ||| c = c := by
  intro n
  induction n with
  | zero => intro _; exact hs
  | succ n ih =>
    intro hn
    have h1 := ih (by omega)
    unfold eSeq
    split
    · next h => exact eSub_or.mpr ⟨h1, hc n (by omega) (eSub_bit.mp h1 n h)⟩
    · exact h1
theorem eSeq_lt {P : Nat → Nat} {g s : Nat} (hP : ∀ i, i < g → P i < 2 ^ g) (hs : s < 2 ^ g) : ∀ n, n ≤ g → eSeq P s n < 2 ^ g := by
  intro n
  induction n with
  | zero => intro _; exact hs
  | succ n ih =>
    intro hn
    unfold eSeq
    split
    · exact Nat.or_lt_two_pow (ih (by omega)) (hP n (by omega))
    · exact ih (by omega)
theorem far_eq {P : Nat → Nat} {g k : Nat} (hg : g ≤ 8) (hk : k < g) (hP : ∀ i, i < g → P i < 2 ^ g) : eIt (fun s => eSeq P s g) g (2 ^ k) = jfarN g P k := by
  have e8 : jfarN g P k = eIt (fun s => jpl P s g) 8 (2 ^ k) := rfl
  have hk2 : 2 ^ k < 2 ^ g := Nat.pow_lt_pow_right (by omega) hk
  have hc : 1 ≤ eCb (2 ^ k) g := by
    have : (2 ^ k).testBit k = true := by simp [Nat.testBit_two_pow]
    have h0 : eCb 0 g < eCb (2 ^ k) g := eCb_strict (Nat.zero_or _) g hk2 (fun e => by rw [← e] at this; simp at this)
    omega
  have A := eIt_end (P := P) (F := fun s => eSeq P s g) (g := g) (fun s => eSeq_up P s g) (fun s hs => eSeq_lt hP hs g (Nat.le_refl _)) (fun s hs hn he => hn (fun i hi hb => by
      have := eSeq_has P s g i hi hb
      have he : eSeq P s g = s := he
      rw [he] at this
      exact this)) (fun s hs => eSub_anti (eSeq_min hs (Nat.or_self s) g (Nat.le_refl _)) (eSeq_up P s g)) hk2 hc (Nat.le_refl g)
  have B := eIt_end (P := P) (F := fun s => jpl P s g) (g := g) (fun s => by
      show s ||| jpl P s g = jpl P s g
      rw [jpl_eq]; exact eSub_self_or) (fun s hs => by
      show jpl P s g < 2 ^ g
      rw [jpl_eq]; exact Nat.or_lt_two_pow hs (ePul_lt hP)) (fun s hs hn he => hn (fun i hi hb => by
      have he : jpl P s g = s := he
      rw [jpl_eq] at he
      have h9 : ePul P s g ||| s = s := by rw [Nat.or_comm]; exact he
      exact ePul_sub.mp h9 i hi hb)) (fun s hs => by
      show jpl P s g = s
      rw [jpl_eq, Nat.or_comm]
      exact ePul_sub.mpr (fun i hi hb => hs i hi hb)) hk2 hc hg
  rw [e8]
  refine eSub_anti (eIt_min (P := P) (g := g) (fun s c hc hs => eSeq_min hc hs g (Nat.le_refl _)) B.1 B.2 g) (eIt_min (P := P) (g := g) (fun s c hc hs => by
    show jpl P s g ||| c = c
    rw [jpl_eq]
    exact eSub_or.mpr ⟨hs, ePul_sub.mpr (fun i hi hb => hc i hi (eSub_bit.mp hs i hb))⟩) A.1 A.2 8)
section EF
variable {p d g : Nat} {D S : jD} {h : jH}
theorem sM_farOf {k : Nat} (b : bV g D) (m : mV g D h) (hk : k < g) : fM_farOf (jz k) h = some (jz (jfarN g (ePD D) k)) := by
  have b0 := b.1
  have hP : ∀ i, i < g → ePD D i < 2 ^ g := fun i hi => (eD7 b (by omega)).2.1
  have hN := two8 b0
  have hlt : ∀ n, eIt (fun s => eSeq (ePD D) s g) n (2 ^ k) < 2 ^ g := by
    intro n
    induction n with
    | zero => exact Nat.pow_lt_pow_right (by omega) hk
    | succ n ih => exact eSeq_lt hP ih g (Nat.le_refl _)
  have hin : ∀ (x : Int32) (s : Nat), s < 2 ^ g → jlim (fM_farOf_l17 x h) (jz s, jz 0) = some (jz (eSeq (ePD D) s g)) := by
    intro x s hs
    refine jlim_go (fun i => (jz (eSeq (ePD D) s i), jz i)) g rfl (fun i hi => ?_) ?_
    · have h1 := eSeq_lt hP hs i (by omega)
      have e7 := eD7 b (show i < 8 by omega)
      have e8 : h.1 142 (8 + i) = jz (ePD D i) := by rw [(m.2.2.2.2 i (by omega)).1, e7.1]
      simp only [fM_farOf_l17, fM_farOf_l17_b, fM_farOf_l17_j49, sM_guestMany m, eSeq]
      have q1 : ((8 : Int) + (i : Int)).toNat = 8 + i := by omega
      cases ht : (eSeq (ePD D) s i).testBit i with
      | true => simp (disch := omega) only [Bool.false_eq_true, jz_lit, jz_neg, jz_nat, jz_add, jz_sub, jz_mul, jz_lt, jz_le, jz_eq, jz_ix, jin_z, jz_div, jzw, jwz, jw_lit, jw_neg, jw_add, jw_sub, jw_mul, jw_lt, jw_le, jw_eq, jw_div, Int.toNat_natCast, if_pos, if_neg, if_true, if_false, Option.bind_some, Int.natCast_add, Int.natCast_mul, Int.cast_ofNat_Int, Int.reduceToNat, Int.reduceAdd, Int.reduceMul, Int.reduceSub, Int.reduceNeg, Nat.reduceAdd, Nat.reduceMul, jbit_at (show eSeq (ePD D) s i < 256 by omega) (show i < 8 by omega), ht, q1, e8, jbit_or]
      | false => simp (disch := omega) only [Bool.false_eq_true, jz_lit, jz_neg, jz_nat, jz_add, jz_sub, jz_mul, jz_lt, jz_le, jz_eq, jz_ix, jin_z, jz_div, jzw, jwz, jw_lit, jw_neg, jw_add, jw_sub, jw_mul, jw_lt, jw_le, jw_eq, jw_div, Int.toNat_natCast, if_pos, if_neg, if_true, if_false, Option.bind_some, Int.natCast_add, Int.natCast_mul, Int.cast_ofNat_Int, Int.reduceToNat, Int.reduceAdd, Int.reduceMul, Int.reduceSub, Int.reduceNeg, Nat.reduceAdd, Nat.reduceMul, jbit_at (show eSeq (ePD D) s i < 256 by omega) (show i < 8 by omega), ht]
    · simp only [fM_farOf_l17, fM_farOf_l17_b, sM_guestMany m]
      simp (disch := omega) only [Bool.false_eq_true, jz_lit, jz_neg, jz_nat, jz_add, jz_sub, jz_mul, jz_lt, jz_le, jz_eq, jz_ix, jin_z, jz_div, jzw, jwz, jw_lit, jw_neg, jw_add, jw_sub, jw_mul, jw_lt, jw_le, jw_eq, jw_div, Int.toNat_natCast, if_pos, if_neg, if_true, if_false, Option.bind_some, Int.natCast_add, Int.natCast_mul, Int.cast_ofNat_Int, Int.reduceToNat, Int.reduceAdd, Int.reduceMul, Int.reduceSub, Int.reduceNeg, Nat.reduceAdd, Nat.reduceMul]
  have hout : jlim (fM_farOf_l6 h) (jz ((2 ^ k : Nat) : Int), jz 0) = some (jz (eIt (fun s => eSeq (ePD D) s g) g (2 ^ k))) := by
    refine jlim_go (fun i => (jz (eIt (fun s => eSeq (ePD D) s g) i (2 ^ k)), jz i)) g rfl (fun i hi => ?_) ?_
    · simp only [fM_farOf_l6, fM_farOf_l6_b, sM_guestMany m, eIt]
      simp (disch := omega) only [Bool.false_eq_true, jz_lit, jz_neg, jz_nat, jz_add, jz_sub, jz_mul, jz_lt, jz_le, jz_eq, jz_ix, jin_z, jz_div, jzw, jwz, jw_lit, jw_neg, jw_add, jw_sub, jw_mul, jw_lt, jw_le, jw_eq, jw_div, Int.toNat_natCast, if_pos, if_neg, if_true, if_false, Option.bind_some, Int.natCast_add, Int.natCast_mul, Int.cast_ofNat_Int, Int.reduceToNat, Int.reduceAdd, Int.reduceMul, Int.reduceSub, Int.reduceNeg, Nat.reduceAdd, Nat.reduceMul, hin (jz i) _ (hlt i)]
    · simp only [fM_farOf_l6, fM_farOf_l6_b, sM_guestMany m]
      simp (disch := omega) only [Bool.false_eq_true, jz_lit, jz_neg, jz_nat, jz_add, jz_sub, jz_mul, jz_lt, jz_le, jz_eq, jz_ix, jin_z, jz_div, jzw, jwz, jw_lit, jw_neg, jw_add, jw_sub, jw_mul, jw_lt, jw_le, jw_eq, jw_div, Int.toNat_natCast, if_pos, if_neg, if_true, if_false, Option.bind_some, Int.natCast_add, Int.natCast_mul, Int.cast_ofNat_Int, Int.reduceToNat, Int.reduceAdd, Int.reduceMul, Int.reduceSub, Int.reduceNeg, Nat.reduceAdd, Nat.reduceMul]
  unfold fM_farOf
  have hs := jbit_shl (show k < 20 by omega)
  rw [show ((1 : Int32) <<< (jz (k : Int) &&& 31)) = jz ((2 ^ k : Nat) : Int) from hs, show (0 : Int32) = jz 0 from rfl, hout, far_eq b0 hk hP]
  rfl
end EF
theorem call_7 : jcal_7 jInv := by
  intro p d q h a0 V
  have V0 := V
  obtain ⟨hpd, hq, v1, v2, v3, v4, v5, v6, g, D, S, L, ⟨b, c, m, w1, w2, w3, w4⟩, ⟨bs, cs, ms⟩, -⟩ := V
  have hb_a := jz_bd a0
  generalize ha_a : a0.toInt = a at hb_a
  obtain rfl : a0 = jz a := by rw [← ha_a]; exact jz_self a0
  clear ha_a
  have b0 := b.1
  unfold fA_far fM_far
  rw [sA_isGuest b c hb_a.1 hb_a.2, sM_isGuest b m hb_a.1 hb_a.2]
  by_cases e : 0 ≤ a ∧ a < g
  · obtain ⟨k, rfl⟩ : ∃ k : Nat, a = k := ⟨a.toNat, by omega⟩
    have e9 : D 9 k = jfarN g (ePD D) k := by
      have t := w4 k (by omega)
      rw [if_pos (show k < g by omega)] at t
      exact t
    have c9 := (c.2.2.2.2 k (by omega)).2.2
    refine ⟨jz (jfarN g (ePD D) k), ?_, jz (jfarN g (ePD D) k), ?_, rfl, V0⟩
    · simp (disch := omega) only [Bool.false_eq_true, jz_lit, jz_neg, jz_nat, jz_add, jz_sub, jz_mul, jz_lt, jz_le, jz_eq, jz_ix, jin_z, jz_div, jzw, jwz, jw_lit, jw_neg, jw_add, jw_sub, jw_mul, jw_lt, jw_le, jw_eq, jw_div, Int.toNat_natCast, if_pos, if_neg, if_true, if_false, Option.bind_some, Int.natCast_add, Int.natCast_mul, Int.cast_ofNat_Int, Int.reduceToNat, Int.reduceAdd, Int.reduceMul, Int.reduceSub, Int.reduceNeg, Nat.reduceAdd, Nat.reduceMul, c9, e9]
    · simp (disch := omega) only [Bool.false_eq_true, jz_lit, jz_neg, jz_nat, jz_add, jz_sub, jz_mul, jz_lt, jz_le, jz_eq, jz_ix, jin_z, jz_div, jzw, jwz, jw_lit, jw_neg, jw_add, jw_sub, jw_mul, jw_lt, jw_le, jw_eq, jw_div, Int.toNat_natCast, if_pos, if_neg, if_true, if_false, Option.bind_some, Int.natCast_add, Int.natCast_mul, Int.cast_ofNat_Int, Int.reduceToNat, Int.reduceAdd, Int.reduceMul, Int.reduceSub, Int.reduceNeg, Nat.reduceAdd, Nat.reduceMul, sM_farOf b m (show k < g by omega)]
  · refine ⟨jz (-1), ?_, jz (-1), ?_, rfl, V0⟩
    · simp (disch := omega) only [Bool.false_eq_true, jz_lit, jz_neg, jz_nat, jz_add, jz_sub, jz_mul, jz_lt, jz_le, jz_eq, jz_ix, jin_z, jz_div, jzw, jwz, jw_lit, jw_neg, jw_add, jw_sub, jw_mul, jw_lt, jw_le, jw_eq, jw_div, Int.toNat_natCast, if_pos, if_neg, if_true, if_false, Option.bind_some, Int.natCast_add, Int.natCast_mul, Int.cast_ofNat_Int, Int.reduceToNat, Int.reduceAdd, Int.reduceMul, Int.reduceSub, Int.reduceNeg, Nat.reduceAdd, Nat.reduceMul]
    · simp (disch := omega) only [Bool.false_eq_true, jz_lit, jz_neg, jz_nat, jz_add, jz_sub, jz_mul, jz_lt, jz_le, jz_eq, jz_ix, jin_z, jz_div, jzw, jwz, jw_lit, jw_neg, jw_add, jw_sub, jw_mul, jw_lt, jw_le, jw_eq, jw_div, Int.toNat_natCast, if_pos, if_neg, if_true, if_false, Option.bind_some, Int.natCast_add, Int.natCast_mul, Int.cast_ofNat_Int, Int.reduceToNat, Int.reduceAdd, Int.reduceMul, Int.reduceSub, Int.reduceNeg, Nat.reduceAdd, Nat.reduceMul]
