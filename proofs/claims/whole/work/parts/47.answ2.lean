/-! answers: both sides -/
def eU (s n i : Nat) : Nat := s ^ (min i n) * (100 - s) ^ (i - n)
theorem eU_1 {s n i : Nat} (h : i < n) : eU s n (i + 1) = eU s n i * s := by
  unfold eU
  rw [Nat.min_eq_left (show i + 1 ≤ n by omega), Nat.min_eq_left (show i ≤ n by omega), show i + 1 - n = 0 by omega, show i - n = 0 by omega, Nat.pow_zero, Nat.mul_one, Nat.mul_one, Nat.pow_succ]
theorem eU_2 {s n i : Nat} (h : n ≤ i) : eU s n (i + 1) = eU s n i * (100 - s) := by
  unfold eU
  rw [Nat.min_eq_right (show n ≤ i + 1 by omega), Nat.min_eq_right h, show i + 1 - n = (i - n) + 1 by omega, Nat.pow_succ, Nat.mul_assoc]
theorem eHu {w : Nat} (hw : w ≤ 8) : 100 ^ w ≤ 10000000000000000 ∧ 1 ≤ 100 ^ w := by
  have h1 : (List.range 9).all (fun w => decide (100 ^ w ≤ 10000000000000000 ∧ 1 ≤ 100 ^ w)) = true := by decide +kernel
  exact of_decide_eq_true (List.all_eq_true.mp h1 w (List.mem_range.mpr (by omega)))
section EAN
variable {p g w n s : Nat} {D S : jD} {h : jH}
theorem sCr_l25 (hw : w ≤ 8) (hn : n ≤ w) (hs : s ≤ 100) : jlim (fCr_someOf_l25 (jz w) (jz n) (jz s) h) (1, 1, 0) = some (jw (eNk w n), jw (eU s n w)) := by
  have m0 : ((1, 1, 0) : Int64 × Int64 × Int32) = (jw (eNk w (min 0 n)), jw (eU s n 0), jz ((0 : Nat) : Int)) := by
    rw [Nat.zero_min, eNk_0]
    unfold eU
    rw [Nat.zero_min, Nat.zero_sub, Nat.pow_zero, Nat.pow_zero]
    rfl
  refine jlim_go (fun i => (jw (eNk w (min i n)), jw (eU s n i), jz i)) w m0 (fun i hi => ?_) ?_
  · have hc := eNk_step hw hi
    show fCr_someOf_l25_b (jz w) (jz n) (jz s) (jw (eNk w (min i n))) (jw (eU s n i)) (jz i) h = some (.inl (jw (eNk w (min (i + 1) n)), jw (eU s n (i + 1)), jz ((i + 1 : Nat) : Int)))
    unfold fCr_someOf_l25_b fCr_someOf_l25_j49 fCr_someOf_l25_j72
    by_cases c : i < n
    · rw [Nat.min_eq_left (show i ≤ n by omega), Nat.min_eq_left (show i + 1 ≤ n by omega)]
      have eu : ((eU s n i : Nat) : Int) * (s : Int) = ((eU s n (i + 1) : Nat) : Int) := by rw [eU_1 c, Int.natCast_mul]
      have pr : ((eNk w i : Nat) : Int) * ((w : Int) - (i : Int)) = ((eNk w i * (w - i) : Nat) : Int) := by rw [Int.natCast_mul, Int.natCast_sub (by omega)]
      have pb : eNk w i * (w - i) ≤ 100 * 8 := Nat.mul_le_mul hc.2 (by omega)
      have td : (((eNk w i : Nat) : Int) * ((w : Int) - (i : Int))).tdiv ((i : Int) + 1) = ((eNk w (i + 1) : Nat) : Int) := by
        rw [pr, show ((i : Int) + 1) = ((i + 1 : Nat) : Int) by omega, tdiv_nn (by omega), ← hc.1, Int.natCast_ediv]
      have b1 : 0 ≤ ((eNk w i : Nat) : Int) * ((w : Int) - (i : Int)) := by rw [pr]; omega
      have b2 : ((eNk w i : Nat) : Int) * ((w : Int) - (i : Int)) ≤ 800 := by rw [pr]; omega
      clear pr
      generalize eU s n i = ua at *
      generalize eU s n (i + 1) = ub at *
      generalize eNk w (i + 1) = cb at *
      simp (disch := omega) only [Bool.false_eq_true, jz_lit, jz_neg, jz_nat, jz_add, jz_sub, jz_mul, jz_lt, jz_le, jz_eq, jz_ix, jin_z, jz_div, jzw, jwz, jw_lit, jw_neg, jw_add, jw_sub, jw_mul, jw_lt, jw_le, jw_eq, jw_div, Int.toNat_natCast, if_pos, if_neg, if_true, if_false, Option.bind_some, Int.natCast_add, Int.natCast_mul, Int.cast_ofNat_Int, Int.reduceToNat, Int.reduceAdd, Int.reduceMul, Int.reduceSub, Int.reduceNeg, Nat.reduceAdd, Nat.reduceMul, td, eu]
    · rw [Nat.min_eq_right (show n ≤ i by omega), Nat.min_eq_right (show n ≤ i + 1 by omega)]
      have eu : ((eU s n i : Nat) : Int) * (100 - (s : Int)) = ((eU s n (i + 1) : Nat) : Int) := by rw [eU_2 (by omega), Int.natCast_mul, Int.natCast_sub hs]; rfl
      generalize eU s n i = ua at *
      generalize eU s n (i + 1) = ub at *
      simp (disch := omega) only [Bool.false_eq_true, jz_lit, jz_neg, jz_nat, jz_add, jz_sub, jz_mul, jz_lt, jz_le, jz_eq, jz_ix, jin_z, jz_div, jzw, jwz, jw_lit, jw_neg, jw_add, jw_sub, jw_mul, jw_lt, jw_le, jw_eq, jw_div, Int.toNat_natCast, if_pos, if_neg, if_true, if_false, Option.bind_some, Int.natCast_add, Int.natCast_mul, Int.cast_ofNat_Int, Int.reduceToNat, Int.reduceAdd, Int.reduceMul, Int.reduceSub, Int.reduceNeg, Nat.reduceAdd, Nat.reduceMul, eu]
  · show fCr_someOf_l25_b (jz w) (jz n) (jz s) (jw (eNk w (min w n))) (jw (eU s n w)) (jz w) h = _
    unfold fCr_someOf_l25_b
    rw [Nat.min_eq_right hn]
    simp (disch := omega) only [Bool.false_eq_true, jz_lit, jz_neg, jz_nat, jz_add, jz_sub, jz_mul, jz_lt, jz_le, jz_eq, jz_ix, jin_z, jz_div, jzw, jwz, jw_lit, jw_neg, jw_add, jw_sub, jw_mul, jw_lt, jw_le, jw_eq, jw_div, Int.toNat_natCast, if_pos, if_neg, if_true, if_false, Option.bind_some, Int.natCast_add, Int.natCast_mul, Int.cast_ofNat_Int, Int.reduceToNat, Int.reduceAdd, Int.reduceMul, Int.reduceSub, Int.reduceNeg, Nat.reduceAdd, Nat.reduceMul]
theorem sCr_someOf (hw : w ≤ 8) (hn : n ≤ w) (hs : s ≤ 100) : fCr_someOf (jz w) (jz n) (jz s) h = some (jw ((eBn s w n * 100 ^ (3 - w) / 100 ^ (w - 3) : Nat) : Int)) := by
  have e := (eBn_cl s w n).1 hn
  have bb := eBn_le hs w n
  have hh := (eHu hw).1
  have pr : jw (eU s n w) * jw (eNk w n) = jw (eBn s w n) := by
    rw [jw_mul, e]
    unfold eU
    rw [Nat.min_eq_right hn, ← Int.natCast_mul]
  have q1 : jlim (fCr_someOf_l87 (jz w) h) (jw (eBn s w n), jz w) = some (jw ((eBn s w n * 100 ^ (3 - w) : Nat) : Int)) := by
    by_cases c : w ≤ 3
    · have hl := jlim_cnt (step := fCr_someOf_l87 (jz w) h) (fun k (_ : Unit) => (jw ((eBn s w n * 100 ^ (k - w) : Nat) : Int), jz k)) (fun _ _ => True) (fun x => x = jw ((eBn s w n * 100 ^ (3 - w) : Nat) : Int)) 3 (3 - w) w (by omega) () trivial (fun k _ h1 h2 _ => ⟨(), ?_, trivial⟩) (fun _ _ => ⟨_, ?_, rfl⟩)
      · obtain ⟨x, e, rfl⟩ := hl
        rw [Nat.sub_self, Nat.pow_zero, Nat.mul_one] at e
        exact e
      · show fCr_someOf_l87_b (jz w) (jw ((eBn s w n * 100 ^ (k - w) : Nat) : Int)) (jz k) h = _
        unfold fCr_someOf_l87_b
        have eq : ((eBn s w n * 100 ^ (k - w) : Nat) : Int) * 100 = ((eBn s w n * 100 ^ (k + 1 - w) : Nat) : Int) := by
          rw [show k + 1 - w = (k - w) + 1 by omega, Nat.pow_succ, ← Nat.mul_assoc]
          omega
        generalize eBn s w n * 100 ^ (k - w) = a at *
        generalize eBn s w n * 100 ^ (k + 1 - w) = b at *
        simp (disch := omega) only [Bool.false_eq_true, jz_lit, jz_neg, jz_nat, jz_add, jz_sub, jz_mul, jz_lt, jz_le, jz_eq, jz_ix, jin_z, jz_div, jzw, jwz, jw_lit, jw_neg, jw_add, jw_sub, jw_mul, jw_lt, jw_le, jw_eq, jw_div, Int.toNat_natCast, if_pos, if_neg, if_true, if_false, Option.bind_some, Int.natCast_add, Int.natCast_mul, Int.cast_ofNat_Int, Int.reduceToNat, Int.reduceAdd, Int.reduceMul, Int.reduceSub, Int.reduceNeg, Nat.reduceAdd, Nat.reduceMul, eq]
      · show fCr_someOf_l87_b (jz w) (jw ((eBn s w n * 100 ^ (3 - w) : Nat) : Int)) (jz ((3 : Nat) : Int)) h = _
        unfold fCr_someOf_l87_b
        generalize eBn s w n * 100 ^ (3 - w) = a at *
        simp (disch := omega) only [Bool.false_eq_true, jz_lit, jz_neg, jz_nat, jz_add, jz_sub, jz_mul, jz_lt, jz_le, jz_eq, jz_ix, jin_z, jz_div, jzw, jwz, jw_lit, jw_neg, jw_add, jw_sub, jw_mul, jw_lt, jw_le, jw_eq, jw_div, Int.toNat_natCast, if_pos, if_neg, if_true, if_false, Option.bind_some, Int.natCast_add, Int.natCast_mul, Int.cast_ofNat_Int, Int.reduceToNat, Int.reduceAdd, Int.reduceMul, Int.reduceSub, Int.reduceNeg, Nat.reduceAdd, Nat.reduceMul]
    · rw [show 3 - w = 0 by omega, Nat.pow_zero, Nat.mul_one]
      refine jlim_go (fun _ => (jw (eBn s w n), jz w)) 0 rfl (fun i hi => absurd hi (by omega)) ?_
      show fCr_someOf_l87_b (jz w) (jw (eBn s w n)) (jz w) h = _
      unfold fCr_someOf_l87_b
      simp (disch := omega) only [Bool.false_eq_true, jz_lit, jz_neg, jz_nat, jz_add, jz_sub, jz_mul, jz_lt, jz_le, jz_eq, jz_ix, jin_z, jz_div, jzw, jwz, jw_lit, jw_neg, jw_add, jw_sub, jw_mul, jw_lt, jw_le, jw_eq, jw_div, Int.toNat_natCast, if_pos, if_neg, if_true, if_false, Option.bind_some, Int.natCast_add, Int.natCast_mul, Int.cast_ofNat_Int, Int.reduceToNat, Int.reduceAdd, Int.reduceMul, Int.reduceSub, Int.reduceNeg, Nat.reduceAdd, Nat.reduceMul]
  have dv : ∀ z : Nat, ((z : Nat) : Int).tdiv 100 = ((z / 100 : Nat) : Int) := fun z => by rw [tdiv_nn (by omega)]; omega
  have q2 : ∀ y : Nat, y ≤ 10000000000000000 → jlim (fCr_someOf_l110 (jz w) h) (jw y, jz 3) = some (jw ((y / 100 ^ (w - 3) : Nat) : Int)) := by
    intro y hy
    by_cases c : 3 ≤ w
    · have hl := jlim_cnt (step := fCr_someOf_l110 (jz w) h) (fun k (_ : Unit) => (jw ((y / 100 ^ (k - 3) : Nat) : Int), jz k)) (fun _ _ => True) (fun x => x = jw ((y / 100 ^ (w - 3) : Nat) : Int)) w (w - 3) 3 (by omega) () trivial (fun k _ h1 h2 _ => ⟨(), ?_, trivial⟩) (fun _ _ => ⟨_, ?_, rfl⟩)
      · obtain ⟨x, e, rfl⟩ := hl
        rw [Nat.sub_self, Nat.pow_zero, Nat.div_one] at e
        exact e
      · show fCr_someOf_l110_b (jz w) (jw ((y / 100 ^ (k - 3) : Nat) : Int)) (jz k) h = _
        unfold fCr_someOf_l110_b
        have le : y / 100 ^ (k - 3) ≤ y := Nat.div_le_self _ _
        have eq : (((y / 100 ^ (k - 3) : Nat) : Int)).tdiv 100 = ((y / 100 ^ (k + 1 - 3) : Nat) : Int) := by
          rw [show k + 1 - 3 = (k - 3) + 1 by omega, Nat.pow_succ, ← Nat.div_div_eq_div_mul]
          exact dv _
        generalize y / 100 ^ (k - 3) = a at *
        generalize y / 100 ^ (k + 1 - 3) = b at *
        simp (disch := omega) only [Bool.false_eq_true, jz_lit, jz_neg, jz_nat, jz_add, jz_sub, jz_mul, jz_lt, jz_le, jz_eq, jz_ix, jin_z, jz_div, jzw, jwz, jw_lit, jw_neg, jw_add, jw_sub, jw_mul, jw_lt, jw_le, jw_eq, jw_div, Int.toNat_natCast, if_pos, if_neg, if_true, if_false, Option.bind_some, Int.natCast_add, Int.natCast_mul, Int.cast_ofNat_Int, Int.reduceToNat, Int.reduceAdd, Int.reduceMul, Int.reduceSub, Int.reduceNeg, Nat.reduceAdd, Nat.reduceMul, eq]
      · show fCr_someOf_l110_b (jz w) (jw ((y / 100 ^ (w - 3) : Nat) : Int)) (jz w) h = _
        unfold fCr_someOf_l110_b
        generalize y / 100 ^ (w - 3) = a at *
        simp (disch := omega) only [Bool.false_eq_true, jz_lit, jz_neg, jz_nat, jz_add, jz_sub, jz_mul, jz_lt, jz_le, jz_eq, jz_ix, jin_z, jz_div, jzw, jwz, jw_lit, jw_neg, jw_add, jw_sub, jw_mul, jw_lt, jw_le, jw_eq, jw_div, Int.toNat_natCast, if_pos, if_neg, if_true, if_false, Option.bind_some, Int.natCast_add, Int.natCast_mul, Int.cast_ofNat_Int, Int.reduceToNat, Int.reduceAdd, Int.reduceMul, Int.reduceSub, Int.reduceNeg, Nat.reduceAdd, Nat.reduceMul]
    · rw [show w - 3 = 0 by omega, Nat.pow_zero, Nat.div_one]
      refine jlim_go (fun _ => (jw y, jz 3)) 0 rfl (fun i hi => absurd hi (by omega)) ?_
      show fCr_someOf_l110_b (jz w) (jw y) (jz 3) h = _
      unfold fCr_someOf_l110_b
      simp (disch := omega) only [Bool.false_eq_true, jz_lit, jz_neg, jz_nat, jz_add, jz_sub, jz_mul, jz_lt, jz_le, jz_eq, jz_ix, jin_z, jz_div, jzw, jwz, jw_lit, jw_neg, jw_add, jw_sub, jw_mul, jw_lt, jw_le, jw_eq, jw_div, Int.toNat_natCast, if_pos, if_neg, if_true, if_false, Option.bind_some, Int.natCast_add, Int.natCast_mul, Int.cast_ofNat_Int, Int.reduceToNat, Int.reduceAdd, Int.reduceMul, Int.reduceSub, Int.reduceNeg, Nat.reduceAdd, Nat.reduceMul]
  have yb : eBn s w n * 100 ^ (3 - w) ≤ 10000000000000000 := by
    by_cases c : w ≤ 3
    · have h1 : eBn s w n * 100 ^ (3 - w) ≤ 100 ^ w * 100 ^ (3 - w) := Nat.mul_le_mul_right _ bb
      rw [← Nat.pow_add, show w + (3 - w) = 3 by omega] at h1
      have : (100 : Nat) ^ 3 = 1000000 := rfl
      omega
    · rw [show 3 - w = 0 by omega, Nat.pow_zero, Nat.mul_one]
      omega
  have q2' := q2 _ yb
  have l25 := sCr_l25 (h := h) hw hn hs
  unfold fCr_someOf
  rw [l25]
  simp only [Option.bind_some]
  rw [pr, q1]
  simp only [Option.bind_some]
  rw [show (3 : Int32) = jz 3 from rfl, q2']
  generalize eBn s w n * 100 ^ (3 - w) / 100 ^ (w - 3) = a at *
  simp (disch := omega) only [Bool.false_eq_true, jz_lit, jz_neg, jz_nat, jz_add, jz_sub, jz_mul, jz_lt, jz_le, jz_eq, jz_ix, jin_z, jz_div, jzw, jwz, jw_lit, jw_neg, jw_add, jw_sub, jw_mul, jw_lt, jw_le, jw_eq, jw_div, Int.toNat_natCast, if_pos, if_neg, if_true, if_false, Option.bind_some, Int.natCast_add, Int.natCast_mul, Int.cast_ofNat_Int, Int.reduceToNat, Int.reduceAdd, Int.reduceMul, Int.reduceSub, Int.reduceNeg, Nat.reduceAdd, Nat.reduceMul]
end EAN
