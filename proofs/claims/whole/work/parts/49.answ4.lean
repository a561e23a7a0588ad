/-! answers: the call -/
theorem call_10 : jcal_10 jInv := by
  intro p d q h a0 V
  have V0 := V
  obtain ⟨hpd, hq, v1, v2, v3, v4, v5, v6, ⟨g, D, S, L, w1, w2, w3⟩⟩ := V
  obtain ⟨bv, cv, mv, -⟩ := w1
  obtain ⟨bs, cs, ms⟩ := w2
  have c10 := cv.2.2.1.1
  have m10 := mv.2.2.1.1
  have b10 := bv.2.2.1.1
  have b8 := bv.2.1
  have hg := bv.1
  have hb_a := jz_bd a0
  generalize ha_a : a0.toInt = a at hb_a
  obtain rfl : a0 = jz a := by rw [← ha_a]; exact jz_self a0
  clear ha_a
  have isn := sM_isIn (a := a) (b := 0) (c := 8) (by omega) (by omega) (by omega) (by omega) (by omega) (by omega)
  by_cases d0 : D 0 10 = 0
  · refine ⟨jz (-1), ?_, (jz (-1), h), ?_, rfl, V0⟩
    · unfold fA_answers; rw [c10]; simp (disch := omega) only [Bool.false_eq_true, jz_lit, jz_neg, jz_nat, jz_add, jz_sub, jz_mul, jz_lt, jz_le, jz_eq, jz_ix, jin_z, jz_div, jzw, jwz, jw_lit, jw_neg, jw_add, jw_sub, jw_mul, jw_lt, jw_le, jw_eq, jw_div, Int.toNat_natCast, if_pos, if_neg, if_true, if_false, Option.bind_some, Int.natCast_add, Int.natCast_mul, Int.cast_ofNat_Int, Int.reduceToNat, Int.reduceAdd, Int.reduceMul, Int.reduceSub, Int.reduceNeg, Nat.reduceAdd, Nat.reduceMul, d0]
    · unfold fM_answers; rw [m10]; simp (disch := omega) only [Bool.false_eq_true, jz_lit, jz_neg, jz_nat, jz_add, jz_sub, jz_mul, jz_lt, jz_le, jz_eq, jz_ix, jin_z, jz_div, jzw, jwz, jw_lit, jw_neg, jw_add, jw_sub, jw_mul, jw_lt, jw_le, jw_eq, jw_div, Int.toNat_natCast, if_pos, if_neg, if_true, if_false, Option.bind_some, Int.natCast_add, Int.natCast_mul, Int.cast_ofNat_Int, Int.reduceToNat, Int.reduceAdd, Int.reduceMul, Int.reduceSub, Int.reduceNeg, Nat.reduceAdd, Nat.reduceMul, d0]
  have d1 : D 0 10 = 1 := by omega
  by_cases ga : 0 ≤ a ∧ a ≤ 8
  · rw [if_pos ga] at isn
    obtain ⟨n, rfl⟩ : ∃ n : Nat, a = n := ⟨a.toNat, by omega⟩
    have c8 := (cv.2.2.1.2 d1).2.1
    have m8 := (mv.2.2.1.2 d1).2.1
    obtain ⟨s, hs⟩ : ∃ s : Nat, D 0 8 = s := ⟨(D 0 8).toNat, by omega⟩
    rw [hs] at c8 m8
    have cc := sSd_cnt (w := 1) (by omega) bv bs cs
    obtain ⟨x0, e0, r0⟩ := sM_l40 (s := s) (h := h) (a1 := jz n) (a2 := jz s) (a3 := jw 1)
    have cm := sM_howMany (h := x0) (w := 1) (by omega) bv (mV_fr (fun o k _ => by rw [r0.1]) mv) bs (mS_fr (fun k => by rw [r0.1]) ms)
    have wg : eCnt S 1 g ≤ 8 := Nat.le_trans eCnt_le hg
    generalize eCnt S 1 g = w at *
    obtain ⟨x1, e1, r1⟩ := sM_l68 (a1 := jz n) wg (show s ≤ 100 by omega) r0
    have hh := eHu wg
    have bb := eBn_le (show s ≤ 100 by omega) w n
    have e2 := sM_l156 (h := x1) (P := eBn s w n) (A := 100 ^ w) (by omega) hh.1 bb
    have rn := r1.2.2 n (by omega)
    have V1 : jInv p d q x1 := jInv_fr V0 ⟨fun o k _ => by rw [r1.1], fun o k nn => r1.2.1 o k (fun t => nn (by
      subst t
      unfold jS0
      repeat (first | exact Or.inl ⟨by omega, by omega⟩ | refine Or.inr ?_)))⟩
    refine ⟨jz ((eBn s w n * 1000000 / 100 ^ w : Nat) : Int), ?_, (jz ((eBn s w n * 1000000 / 100 ^ w : Nat) : Int), x1), ?_, rfl, V1⟩
    · unfold fA_answers
      rw [c10, c8]
      by_cases nw : n ≤ w
      · have so := sCr_someOf (h := h) wg nw (show s ≤ 100 by omega)
        rw [← eDg_cls wg] at so
        generalize eBn s w n * 1000000 / 100 ^ w = r at *
        simp (disch := omega) only [Bool.false_eq_true, jz_lit, jz_neg, jz_nat, jz_add, jz_sub, jz_mul, jz_lt, jz_le, jz_eq, jz_ix, jin_z, jz_div, jzw, jwz, jw_lit, jw_neg, jw_add, jw_sub, jw_mul, jw_lt, jw_le, jw_eq, jw_div, Int.toNat_natCast, if_pos, if_neg, if_true, if_false, Option.bind_some, Int.natCast_add, Int.natCast_mul, Int.cast_ofNat_Int, Int.reduceToNat, Int.reduceAdd, Int.reduceMul, Int.reduceSub, Int.reduceNeg, Nat.reduceAdd, Nat.reduceMul, cc, so]
      · have z := (eBn_cl s w n).2 (by omega)
        have so : fCr_someOf (jz w) (jz n) (jz s) h = some (jw 0) := by
          unfold fCr_someOf
          simp (disch := omega) only [Bool.false_eq_true, jz_lit, jz_neg, jz_nat, jz_add, jz_sub, jz_mul, jz_lt, jz_le, jz_eq, jz_ix, jin_z, jz_div, jzw, jwz, jw_lit, jw_neg, jw_add, jw_sub, jw_mul, jw_lt, jw_le, jw_eq, jw_div, Int.toNat_natCast, if_pos, if_neg, if_true, if_false, Option.bind_some, Int.natCast_add, Int.natCast_mul, Int.cast_ofNat_Int, Int.reduceToNat, Int.reduceAdd, Int.reduceMul, Int.reduceSub, Int.reduceNeg, Nat.reduceAdd, Nat.reduceMul]
        rw [z, Nat.zero_mul, Nat.zero_div]
        simp (disch := omega) only [Bool.false_eq_true, jz_lit, jz_neg, jz_nat, jz_add, jz_sub, jz_mul, jz_lt, jz_le, jz_eq, jz_ix, jin_z, jz_div, jzw, jwz, jw_lit, jw_neg, jw_add, jw_sub, jw_mul, jw_lt, jw_le, jw_eq, jw_div, Int.toNat_natCast, if_pos, if_neg, if_true, if_false, Option.bind_some, Int.natCast_add, Int.natCast_mul, Int.cast_ofNat_Int, Int.reduceToNat, Int.reduceAdd, Int.reduceMul, Int.reduceSub, Int.reduceNeg, Nat.reduceAdd, Nat.reduceMul, cc, so]
    · have e0' : jlim (fM_answers_l40 (jz n) (jz s) 1) (1, jhL h 151 (0 : Int32).toNatClampNeg 1) = some x0 := e0
      have e1' : jlim (fM_answers_l68 (jz n) (jz s)) (1, jz w, x0) = some (jw ((100 ^ w : Nat) : Int), x1) := e1
      have e2' : jlim (fM_answers_l156 (jw ((100 ^ w : Nat) : Int)) x1) (jw (eBn s w n), 0, 0) = some (jz ((eBn s w n * 1000000 / 100 ^ w : Nat) : Int)) := e2
      have cm' : fM_howMany 1 x0 = some (jz w) := cm
      have m8' : h.1 144 (4 : Int32).toNatClampNeg = jz s := m8
      have isn' : fM_isIn (jz (n : Int)).toInt64 0 8 = jz 1 := by
        rw [jzw (by omega) (by omega)]
        exact isn
      have i9 : jin (jz (n : Int)) 9 := by rw [jin_z (by omega) (by omega)]; omega
      unfold fM_answers
      rw [m10, if_neg (by rw [d1]; decide), isn', if_neg (by decide), if_pos (by decide), if_pos (by decide), m8', e0', Option.bind_some, cm', Option.bind_some, e1', Option.bind_some, if_pos i9, jz_ix (by omega) (by omega), Int.toNat_natCast, rn, e2']
      rfl
  · rw [if_neg ga] at isn
    refine ⟨jz (-1), ?_, (jz (-1), h), ?_, rfl, V0⟩
    · unfold fA_answers
      rw [c10]
      by_cases g2 : a < 0
      · simp (disch := omega) only [Bool.false_eq_true, jz_lit, jz_neg, jz_nat, jz_add, jz_sub, jz_mul, jz_lt, jz_le, jz_eq, jz_ix, jin_z, jz_div, jzw, jwz, jw_lit, jw_neg, jw_add, jw_sub, jw_mul, jw_lt, jw_le, jw_eq, jw_div, Int.toNat_natCast, if_pos, if_neg, if_true, if_false, Option.bind_some, Int.natCast_add, Int.natCast_mul, Int.cast_ofNat_Int, Int.reduceToNat, Int.reduceAdd, Int.reduceMul, Int.reduceSub, Int.reduceNeg, Nat.reduceAdd, Nat.reduceMul]
      · simp (disch := omega) only [Bool.false_eq_true, jz_lit, jz_neg, jz_nat, jz_add, jz_sub, jz_mul, jz_lt, jz_le, jz_eq, jz_ix, jin_z, jz_div, jzw, jwz, jw_lit, jw_neg, jw_add, jw_sub, jw_mul, jw_lt, jw_le, jw_eq, jw_div, Int.toNat_natCast, if_pos, if_neg, if_true, if_false, Option.bind_some, Int.natCast_add, Int.natCast_mul, Int.cast_ofNat_Int, Int.reduceToNat, Int.reduceAdd, Int.reduceMul, Int.reduceSub, Int.reduceNeg, Nat.reduceAdd, Nat.reduceMul]
    · unfold fM_answers
      rw [m10]
      simp (disch := omega) only [Bool.false_eq_true, jz_lit, jz_neg, jz_nat, jz_add, jz_sub, jz_mul, jz_lt, jz_le, jz_eq, jz_ix, jin_z, jz_div, jzw, jwz, jw_lit, jw_neg, jw_add, jw_sub, jw_mul, jw_lt, jw_le, jw_eq, jw_div, Int.toNat_natCast, if_pos, if_neg, if_true, if_false, Option.bind_some, Int.natCast_add, Int.natCast_mul, Int.cast_ofNat_Int, Int.reduceToNat, Int.reduceAdd, Int.reduceMul, Int.reduceSub, Int.reduceNeg, Nat.reduceAdd, Nat.reduceMul, isn]
