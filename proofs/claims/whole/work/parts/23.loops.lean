/-! First loops of the class and of the reference -/
theorem sSd_asked {o : Nat} {h : jH} {D : Nat → Int} (H : ∀ k, k < 8 → h.1 (o + 1) k = jz (D k)) (B : ∀ k, k < 8 → 0 ≤ D k ∧ D k ≤ 300) : fSd_askedSet o h = some (jz (jset (fun k => decide (D k ≠ 0)) 8)) := by
  unfold fSd_askedSet
  have hl : jlim (fSd_askedSet_l4 o h) (0, 0) = some (jz (jset (fun k => decide (D k ≠ 0)) 8)) := by
    refine jlim_go (fun k => (jz (jset (fun k => decide (D k ≠ 0)) k), jz k)) 8 rfl (fun i hi => ?_) ?_
    · have b := B i hi
      have e : jset (fun k => decide (D k ≠ 0)) (i + 1) = if D i ≠ 0 then jset (fun k => decide (D k ≠ 0)) i ||| 2 ^ i else jset (fun k => decide (D k ≠ 0)) i := by simp [jset]
      simp only [fSd_askedSet_l4, fSd_askedSet_l4_b, fSd_askedSet_l4_j25, e]
      by_cases hz : D i = 0
      · simp (disch := omega) only [jz_lit, jz_neg, jz_nat, jz_add, jz_sub, jz_mul, jz_lt, jz_le, jz_eq, jz_ix, jin_z, jz_div, jzw, jwz, jw_lit, jw_neg, jw_add, jw_sub, jw_mul, jw_lt, jw_le, jw_eq, jw_div, Int.toNat_natCast, if_pos, if_neg, if_true, if_false, Option.bind_some, Int.natCast_add, Int.natCast_mul, Int.cast_ofNat_Int, Int.reduceToNat, Int.reduceAdd, Int.reduceMul, Int.reduceSub, Int.reduceNeg, Nat.reduceAdd, Nat.reduceMul, H, hz]
      · simp (disch := omega) only [jz_lit, jz_neg, jz_nat, jz_add, jz_sub, jz_mul, jz_lt, jz_le, jz_eq, jz_ix, jin_z, jz_div, jzw, jwz, jw_lit, jw_neg, jw_add, jw_sub, jw_mul, jw_lt, jw_le, jw_eq, jw_div, Int.toNat_natCast, if_pos, if_neg, if_true, if_false, Option.bind_some, Int.natCast_add, Int.natCast_mul, Int.cast_ofNat_Int, Int.reduceToNat, Int.reduceAdd, Int.reduceMul, Int.reduceSub, Int.reduceNeg, Nat.reduceAdd, Nat.reduceMul, H, hz]
        simp only [hz, ne_eq, not_false_eq_true, decide_true, if_true, if_false, jbit_shl (show i < 20 by omega), jbit_or]
    · simp only [fSd_askedSet_l4, fSd_askedSet_l4_b]
      simp (disch := omega) only [jz_lit, jz_neg, jz_nat, jz_add, jz_sub, jz_mul, jz_lt, jz_le, jz_eq, jz_ix, jin_z, jz_div, jzw, jwz, jw_lit, jw_neg, jw_add, jw_sub, jw_mul, jw_lt, jw_le, jw_eq, jw_div, Int.toNat_natCast, if_pos, if_neg, if_true, if_false, Option.bind_some, Int.natCast_add, Int.natCast_mul, Int.cast_ofNat_Int, Int.reduceToNat, Int.reduceAdd, Int.reduceMul, Int.reduceSub, Int.reduceNeg, Nat.reduceAdd, Nat.reduceMul]
  rw [hl]
  rfl
theorem sSd_count {o : Nat} {h : jH} {D : Nat → Int} {w : Int} (hw : 0 ≤ w ∧ w ≤ 10) (H : ∀ k, k < 8 → h.1 (o + 1) k = jz (D k)) (B : ∀ k, k < 8 → 0 ≤ D k ∧ D k ≤ 300) : fSd_countOf o (jz w) h = some (jz (((List.range 8).filter (fun k => decide (D k = w))).length)) := by
  unfold fSd_countOf
  have hl : jlim (fSd_countOf_l4 o (jz w) h) (0, 0) = some (jz (((List.range 8).filter (fun k => decide (D k = w))).length)) := by
    refine jlim_go (fun k => (jz (((List.range k).filter (fun k => decide (D k = w))).length), jz k)) 8 rfl (fun i hi => ?_) ?_
    · have b := B i hi
      simp only [fSd_countOf_l4, fSd_countOf_l4_b, fSd_countOf_l4_j23, List.range_succ, List.filter_append, List.length_append]
      by_cases hz : D i = w
      · simp (disch := omega) only [jz_lit, jz_neg, jz_nat, jz_add, jz_sub, jz_mul, jz_lt, jz_le, jz_eq, jz_ix, jin_z, jz_div, jzw, jwz, jw_lit, jw_neg, jw_add, jw_sub, jw_mul, jw_lt, jw_le, jw_eq, jw_div, Int.toNat_natCast, if_pos, if_neg, if_true, if_false, Option.bind_some, Int.natCast_add, Int.natCast_mul, Int.cast_ofNat_Int, Int.reduceToNat, Int.reduceAdd, Int.reduceMul, Int.reduceSub, Int.reduceNeg, Nat.reduceAdd, Nat.reduceMul, H, hz]
        first | done | simp [hz]
      · simp (disch := omega) only [jz_lit, jz_neg, jz_nat, jz_add, jz_sub, jz_mul, jz_lt, jz_le, jz_eq, jz_ix, jin_z, jz_div, jzw, jwz, jw_lit, jw_neg, jw_add, jw_sub, jw_mul, jw_lt, jw_le, jw_eq, jw_div, Int.toNat_natCast, if_pos, if_neg, if_true, if_false, Option.bind_some, Int.natCast_add, Int.natCast_mul, Int.cast_ofNat_Int, Int.reduceToNat, Int.reduceAdd, Int.reduceMul, Int.reduceSub, Int.reduceNeg, Nat.reduceAdd, Nat.reduceMul, H, hz]
        first | done | simp [hz]
    · simp only [fSd_countOf_l4, fSd_countOf_l4_b]
      simp (disch := omega) only [jz_lit, jz_neg, jz_nat, jz_add, jz_sub, jz_mul, jz_lt, jz_le, jz_eq, jz_ix, jin_z, jz_div, jzw, jwz, jw_lit, jw_neg, jw_add, jw_sub, jw_mul, jw_lt, jw_le, jw_eq, jw_div, Int.toNat_natCast, if_pos, if_neg, if_true, if_false, Option.bind_some, Int.natCast_add, Int.natCast_mul, Int.cast_ofNat_Int, Int.reduceToNat, Int.reduceAdd, Int.reduceMul, Int.reduceSub, Int.reduceNeg, Nat.reduceAdd, Nat.reduceMul]
  rw [hl]
  rfl
