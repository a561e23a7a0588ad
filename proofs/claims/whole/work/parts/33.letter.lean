/-! Calls: letter, answers -/
def eV27 (l : List Nat) : Nat := l.foldl (fun v c => 27 * v + c) 0
def eV32 (l : List Nat) : Nat := l.foldr (fun c v => c + 32 * v) 0
theorem eV27_snoc (l : List Nat) (c : Nat) : eV27 (l ++ [c]) = 27 * eV27 l + c := by
  unfold eV27
  rw [List.foldl_append]
  rfl
theorem eV32_at : ∀ (l : List Nat) (k : Nat), (∀ c ∈ l, c < 32) → eV32 l / 32 ^ k % 32 = l.getD k 0 := by
  intro l
  induction l with
  | nil => intro k _; simp [eV32]
  | cons c l ih =>
    intro k h
    have hc := h c (by simp)
    have e : eV32 (c :: l) = c + 32 * eV32 l := rfl
    cases k with
    | zero => rw [e]; simp; omega
    | succ k =>
      rw [e, show (32 : Nat) ^ (k + 1) = 32 * 32 ^ k by rw [Nat.pow_succ, Nat.mul_comm], ← Nat.div_div_eq_div_mul, show (c + 32 * eV32 l) / 32 = eV32 l by omega, ih k (fun x hx => h x (by simp [hx]))]
      simp
theorem eV32_lt : ∀ (l : List Nat), (∀ c ∈ l, c < 32) → eV32 l < 32 ^ l.length := by
  intro l
  induction l with
  | nil => intro _; simp [eV32]
  | cons c l ih =>
    intro h
    have hc := h c (by simp)
    have := ih (fun x hx => h x (by simp [hx]))
    have e : eV32 (c :: l) = c + 32 * eV32 l := rfl
    rw [e, List.length_cons, Nat.pow_succ]
    omega
theorem eV27_take {l : List Nat} {j : Nat} (hj : j < l.length) : eV27 (l.take (j + 1)) = 27 * eV27 (l.take j) + l.getD j 0 := by
  have : l.take (j + 1) = l.take j ++ [l.getD j 0] := by
    rw [List.take_add_one]
    congr 1
    rw [List.getD_eq_getElem?_getD, List.getElem?_eq_getElem hj]
    rfl
  rw [this, eV27_snoc]
theorem eV27_b {l : List Nat} (h : ∀ c ∈ l, 1 ≤ c ∧ c ≤ 26) : ∀ j, j ≤ l.length → eV27 (l.take j) < 27 ^ j ∧ (0 < j → 0 < eV27 (l.take j)) := by
  intro j
  induction j with
  | zero => intro _; simp [eV27]
  | succ j ih =>
    intro hj
    have h1 := ih (by omega)
    have h2 := eV27_take (l := l) (j := j) (by omega)
    have h3 : 1 ≤ l.getD j 0 ∧ l.getD j 0 ≤ 26 := by
      rw [List.getD_eq_getElem?_getD, List.getElem?_eq_getElem (by omega : j < l.length)]
      exact h _ (List.getElem_mem _)
    rw [h2, Nat.pow_succ]
    omega
theorem p32_b {n : Nat} (h : n ≤ 6) : 32 ^ n ≤ 1073741824 := by
  have := Nat.pow_le_pow_right (show 0 < 32 by omega) h
  simpa using this
theorem p27_b {n : Nat} (h : n ≤ 6) : 27 ^ n ≤ 387420489 := by
  have := Nat.pow_le_pow_right (show 0 < 27 by omega) h
  simpa using this
theorem jbit_shr {v k : Nat} (hv : v < 2147483648) (hk : k < 32) : (jz v >>> (jz k &&& jz 31)) = jz ((v / 2 ^ k : Nat) : Int) := by
  have e0 : (jz (k : Int) &&& jz 31).toBitVec.smod 32 = BitVec.ofNat 32 k := by
    have h1 : (List.range 32).all (fun k => decide ((jz (k : Int) &&& jz 31).toBitVec.smod 32 = BitVec.ofNat 32 k)) = true := by decide +kernel
    exact of_decide_eq_true (List.all_eq_true.mp h1 k (List.mem_range.mpr hk))
  have e1 : (jz (v : Int)).toBitVec.toInt = v := jz_int (by omega) (by omega)
  have hd := Nat.div_le_self v (2 ^ k)
  rw [← Int32.toInt_inj, jz_int (a := ((v / 2 ^ k : Nat) : Int)) (Int.le_trans (by omega) (Int.natCast_nonneg _)) (Int.lt_of_le_of_lt (Int.ofNat_le.mpr hd) (by omega))]
  show (BitVec.sshiftRight' (jz (v : Int)).toBitVec ((jz (k : Int) &&& jz 31).toBitVec.smod 32)).toInt = _
  rw [e0, BitVec.toInt_sshiftRight', e1]
  have e2 : (BitVec.ofNat 32 k).toNat = k := by simp; omega
  rw [e2]
  show ((v : Int) >>> k) = _
  rw [Int.shiftRight_eq_div_pow]
  simp
theorem jbit_and31 {v : Nat} : jz v &&& jz 31 = jz ((v % 32 : Nat) : Int) := by
  have := jbit_and (m := v) (n := 31)
  rw [show jz ((31 : Nat) : Int) = jz 31 from rfl] at this
  rw [this, show v &&& 31 = v % 32 from Nat.and_two_pow_sub_one_eq_mod v 5]
theorem sWd_letterOf {l : List Nat} (hl : l.length ≤ 6) (h : ∀ c ∈ l, 1 ≤ c ∧ c ≤ 26) {k : Nat} (hk : k < 6) : fWd_letterOf (jz (eV32 l)) (jz k) = jz ((l.getD k 0 : Nat) : Int) := by
  have h1 := eV32_lt l (fun c hc => by have := h c hc; omega)
  have h2 := p32_b hl
  unfold fWd_letterOf
  rw [show (5 : Int32) = jz ((5 : Nat) : Int) from rfl, jz_mul, show (31 : Int32) = jz 31 from rfl, show ((5 : Nat) : Int) * (k : Int) = ((5 * k : Nat) : Int) by omega, jbit_shr (by omega) (by omega), jbit_and31, Nat.pow_mul]
  rw [eV32_at l k (fun c hc => by have := h c hc; omega)]
theorem sM_letter1 {l : List Nat} (hl : l.length ≤ 6) (hl0 : l ≠ []) (h : ∀ c ∈ l, 1 ≤ c ∧ c ≤ 26) (a : Int32) (b : Int64) (hh : jH) : jlim (fM_letter_l38 a b hh) (jz 0, jw (eV27 l)) = some (jz l.length) := by
  refine jlim_go (fun i => (jz i, jw (eV27 (l.take (l.length - i))))) l.length ?_ (fun i hi => ?_) ?_
  · rw [Nat.sub_zero, List.take_length]; rfl
  · have e := eV27_take (l := l) (j := l.length - i - 1) (by omega)
    have bb := eV27_b h (l.length - i) (by omega)
    have bp := p27_b (show l.length - i ≤ 6 by omega)
    have h3 : l.getD (l.length - i - 1) 0 ≤ 26 := by
      rw [List.getD_eq_getElem?_getD, List.getElem?_eq_getElem (by omega : l.length - i - 1 < l.length)]
      exact (h _ (List.getElem_mem _)).2
    rw [show l.length - i - 1 + 1 = l.length - i by omega] at e
    have e2 : ((eV27 (l.take (l.length - i)) : Nat) : Int).tdiv 27 = eV27 (l.take (l.length - (i + 1))) := by
      rw [tdiv_nn (by omega), show l.length - (i + 1) = l.length - i - 1 by omega]
      omega
    simp only [fM_letter_l38, fM_letter_l38_b]
    simp (disch := omega) only [Bool.false_eq_true, jz_lit, jz_neg, jz_nat, jz_add, jz_sub, jz_mul, jz_lt, jz_le, jz_eq, jz_ix, jin_z, jz_div, jzw, jwz, jw_lit, jw_neg, jw_add, jw_sub, jw_mul, jw_lt, jw_le, jw_eq, jw_div, Int.toNat_natCast, if_pos, if_neg, if_true, if_false, Option.bind_some, Int.natCast_add, Int.natCast_mul, Int.cast_ofNat_Int, Int.reduceToNat, Int.reduceAdd, Int.reduceMul, Int.reduceSub, Int.reduceNeg, Nat.reduceAdd, Nat.reduceMul, e2]
  · simp only [fM_letter_l38, fM_letter_l38_b]
    rw [Nat.sub_self]
    show (if jw 0 < jw 0 then _ else _) = _
    simp (disch := omega) only [Bool.false_eq_true, jz_lit, jz_neg, jz_nat, jz_add, jz_sub, jz_mul, jz_lt, jz_le, jz_eq, jz_ix, jin_z, jz_div, jzw, jwz, jw_lit, jw_neg, jw_add, jw_sub, jw_mul, jw_lt, jw_le, jw_eq, jw_div, Int.toNat_natCast, if_pos, if_neg, if_true, if_false, Option.bind_some, Int.natCast_add, Int.natCast_mul, Int.cast_ofNat_Int, Int.reduceToNat, Int.reduceAdd, Int.reduceMul, Int.reduceSub, Int.reduceNeg, Nat.reduceAdd, Nat.reduceMul]
theorem sM_letter2 {l : List Nat} (hl : l.length ≤ 6) (h : ∀ c ∈ l, 1 ≤ c ∧ c ≤ 26) {k : Nat} (hk : k < l.length) (hh : jH) : jlim (fM_letter_l73 (jz k) hh) (jw (eV27 l), jz ((l.length : Int) - 1)) = some (jw (eV27 (l.take (k + 1)))) := by
  refine jlim_go (fun i => (jw (eV27 (l.take (l.length - i))), jz ((l.length : Int) - 1 - i))) (l.length - 1 - k) ?_ (fun i hi => ?_) ?_
  · rw [Nat.sub_zero, List.take_length, show (l.length : Int) - 1 - ((0 : Nat) : Int) = (l.length : Int) - 1 by omega]
  · have e := eV27_take (l := l) (j := l.length - i - 1) (by omega)
    have bb := eV27_b h (l.length - i) (by omega)
    have bp := p27_b (show l.length - i ≤ 6 by omega)
    have h3 : l.getD (l.length - i - 1) 0 ≤ 26 := by
      rw [List.getD_eq_getElem?_getD, List.getElem?_eq_getElem (by omega : l.length - i - 1 < l.length)]
      exact (h _ (List.getElem_mem _)).2
    rw [show l.length - i - 1 + 1 = l.length - i by omega] at e
    have e2 : ((eV27 (l.take (l.length - i)) : Nat) : Int).tdiv 27 = eV27 (l.take (l.length - (i + 1))) := by
      rw [tdiv_nn (by omega), show l.length - (i + 1) = l.length - i - 1 by omega]
      omega
    simp only [fM_letter_l73, fM_letter_l73_b]
    simp (disch := omega) only [Bool.false_eq_true, jz_lit, jz_neg, jz_nat, jz_add, jz_sub, jz_mul, jz_lt, jz_le, jz_eq, jz_ix, jin_z, jz_div, jzw, jwz, jw_lit, jw_neg, jw_add, jw_sub, jw_mul, jw_lt, jw_le, jw_eq, jw_div, Int.toNat_natCast, if_pos, if_neg, if_true, if_false, Option.bind_some, Int.natCast_add, Int.natCast_mul, Int.cast_ofNat_Int, Int.reduceToNat, Int.reduceAdd, Int.reduceMul, Int.reduceSub, Int.reduceNeg, Nat.reduceAdd, Nat.reduceMul, e2]
    rw [show (l.length : Int) - 1 - (i : Int) + -1 = (l.length : Int) - 1 - ((i : Int) + 1) by omega]
  · simp only [fM_letter_l73, fM_letter_l73_b]
    simp (disch := omega) only [Bool.false_eq_true, jz_lit, jz_neg, jz_nat, jz_add, jz_sub, jz_mul, jz_lt, jz_le, jz_eq, jz_ix, jin_z, jz_div, jzw, jwz, jw_lit, jw_neg, jw_add, jw_sub, jw_mul, jw_lt, jw_le, jw_eq, jw_div, Int.toNat_natCast, if_pos, if_neg, if_true, if_false, Option.bind_some, Int.natCast_add, Int.natCast_mul, Int.cast_ofNat_Int, Int.reduceToNat, Int.reduceAdd, Int.reduceMul, Int.reduceSub, Int.reduceNeg, Nat.reduceAdd, Nat.reduceMul]
    rw [show l.length - (l.length - 1 - k) = k + 1 by omega]
theorem call_5 : jcal_5 jInv := by
  intro p d q h a0 a1 V
  have V0 := V
  obtain ⟨hpd, hq, v1, v2, v3, v4, v5, v6, g, D, S, L, ⟨b, c, m, w1, w2, w3, w4⟩, ⟨bs, cs, ms⟩, -⟩ := V
  have hb_a := jz_bd a0
  generalize ha_a : a0.toInt = a at hb_a
  obtain rfl : a0 = jz a := by rw [← ha_a]; exact jz_self a0
  clear ha_a
  have hb_e := jz_bd a1
  generalize ha_e : a1.toInt = e at hb_e
  obtain rfl : a1 = jz e := by rw [← ha_e]; exact jz_self a1
  clear ha_e
  have b0 := b.1
  unfold fA_letter fM_letter
  rw [sA_isGuest b c hb_a.1 hb_a.2, sM_isGuest b m hb_a.1 hb_a.2]
  by_cases ga : 0 ≤ a ∧ a < g
  · by_cases ge : 0 ≤ e ∧ e ≤ 5
    · obtain ⟨k, rfl⟩ : ∃ k : Nat, a = k := ⟨a.toNat, by omega⟩
      obtain ⟨j, rfl⟩ : ∃ j : Nat, e = j := ⟨e.toNat, by omega⟩
      obtain ⟨l, l1, l2, l3, l4, l5⟩ := w2 k (by omega)
      have l4 : h.1 (p + 1) k = jz (eV32 l) := l4
      have l5 : h.2 139 (8 + k) = jw (eV27 l) := l5
      have hlen : 0 < l.length := by cases l with
        | nil => exact absurd rfl l1
        | cons _ _ => simp
      have q1 : ((8 : Int) + (k : Int)).toNat = 8 + k := by omega
      have s1 := sWd_letterOf l2 l3 (show j < 6 by omega)
      have s2 := sM_letter1 l2 l1 l3 (jz j) (jw (eV27 l)) h
      refine ⟨jz ((l.getD j 0 : Nat) : Int), ?_, jz ((l.getD j 0 : Nat) : Int), ?_, rfl, V0⟩
      · simp (disch := omega) only [Bool.false_eq_true, jz_lit, jz_neg, jz_nat, jz_add, jz_sub, jz_mul, jz_lt, jz_le, jz_eq, jz_ix, jin_z, jz_div, jzw, jwz, jw_lit, jw_neg, jw_add, jw_sub, jw_mul, jw_lt, jw_le, jw_eq, jw_div, Int.toNat_natCast, if_pos, if_neg, if_true, if_false, Option.bind_some, Int.natCast_add, Int.natCast_mul, Int.cast_ofNat_Int, Int.reduceToNat, Int.reduceAdd, Int.reduceMul, Int.reduceSub, Int.reduceNeg, Nat.reduceAdd, Nat.reduceMul, l4, s1]
      · by_cases hj : j < l.length
        · have s3 := sM_letter2 l2 l3 hj h
          have e4 := eV27_take hj
          have bb := eV27_b l3 (j + 1) (by omega)
          have bp := p27_b (show j + 1 ≤ 6 by omega)
          have h3 : l.getD j 0 ≤ 26 := by
            rw [List.getD_eq_getElem?_getD, List.getElem?_eq_getElem hj]
            exact (l3 _ (List.getElem_mem _)).2
          simp (disch := omega) only [Bool.false_eq_true, jz_lit, jz_neg, jz_nat, jz_add, jz_sub, jz_mul, jz_lt, jz_le, jz_eq, jz_ix, jin_z, jz_div, jzw, jwz, jw_lit, jw_neg, jw_add, jw_sub, jw_mul, jw_lt, jw_le, jw_eq, jw_div, Int.toNat_natCast, if_pos, if_neg, if_true, if_false, Option.bind_some, Int.natCast_add, Int.natCast_mul, Int.cast_ofNat_Int, Int.reduceToNat, Int.reduceAdd, Int.reduceMul, Int.reduceSub, Int.reduceNeg, Nat.reduceAdd, Nat.reduceMul, sM_isIn, q1, l5, s2, s3]
          rw [tdiv_nn (by omega), show ((eV27 (l.take (j + 1)) : Nat) : Int) - ((eV27 (l.take (j + 1)) : Nat) : Int) / 27 * 27 = ((l.getD j 0 : Nat) : Int) by omega]
        · simp (disch := omega) only [Bool.false_eq_true, jz_lit, jz_neg, jz_nat, jz_add, jz_sub, jz_mul, jz_lt, jz_le, jz_eq, jz_ix, jin_z, jz_div, jzw, jwz, jw_lit, jw_neg, jw_add, jw_sub, jw_mul, jw_lt, jw_le, jw_eq, jw_div, Int.toNat_natCast, if_pos, if_neg, if_true, if_false, Option.bind_some, Int.natCast_add, Int.natCast_mul, Int.cast_ofNat_Int, Int.reduceToNat, Int.reduceAdd, Int.reduceMul, Int.reduceSub, Int.reduceNeg, Nat.reduceAdd, Nat.reduceMul, sM_isIn, q1, l5, s2]
          rw [show l.getD j 0 = 0 by rw [List.getD_eq_getElem?_getD, List.getElem?_eq_none (by omega)]; rfl]
          rfl
    · refine ⟨jz (-1), ?_, jz (-1), ?_, rfl, V0⟩
      · by_cases e1 : e < 0
        · simp (disch := omega) only [Bool.false_eq_true, jz_lit, jz_neg, jz_nat, jz_add, jz_sub, jz_mul, jz_lt, jz_le, jz_eq, jz_ix, jin_z, jz_div, jzw, jwz, jw_lit, jw_neg, jw_add, jw_sub, jw_mul, jw_lt, jw_le, jw_eq, jw_div, Int.toNat_natCast, if_pos, if_neg, if_true, if_false, Option.bind_some, Int.natCast_add, Int.natCast_mul, Int.cast_ofNat_Int, Int.reduceToNat, Int.reduceAdd, Int.reduceMul, Int.reduceSub, Int.reduceNeg, Nat.reduceAdd, Nat.reduceMul]
        · simp (disch := omega) only [Bool.false_eq_true, jz_lit, jz_neg, jz_nat, jz_add, jz_sub, jz_mul, jz_lt, jz_le, jz_eq, jz_ix, jin_z, jz_div, jzw, jwz, jw_lit, jw_neg, jw_add, jw_sub, jw_mul, jw_lt, jw_le, jw_eq, jw_div, Int.toNat_natCast, if_pos, if_neg, if_true, if_false, Option.bind_some, Int.natCast_add, Int.natCast_mul, Int.cast_ofNat_Int, Int.reduceToNat, Int.reduceAdd, Int.reduceMul, Int.reduceSub, Int.reduceNeg, Nat.reduceAdd, Nat.reduceMul]
      · simp (disch := omega) only [Bool.false_eq_true, jz_lit, jz_neg, jz_nat, jz_add, jz_sub, jz_mul, jz_lt, jz_le, jz_eq, jz_ix, jin_z, jz_div, jzw, jwz, jw_lit, jw_neg, jw_add, jw_sub, jw_mul, jw_lt, jw_le, jw_eq, jw_div, Int.toNat_natCast, if_pos, if_neg, if_true, if_false, Option.bind_some, Int.natCast_add, Int.natCast_mul, Int.cast_ofNat_Int, Int.reduceToNat, Int.reduceAdd, Int.reduceMul, Int.reduceSub, Int.reduceNeg, Nat.reduceAdd, Nat.reduceMul, sM_isIn]
  · refine ⟨jz (-1), ?_, jz (-1), ?_, rfl, V0⟩
    · simp (disch := omega) only [Bool.false_eq_true, jz_lit, jz_neg, jz_nat, jz_add, jz_sub, jz_mul, jz_lt, jz_le, jz_eq, jz_ix, jin_z, jz_div, jzw, jwz, jw_lit, jw_neg, jw_add, jw_sub, jw_mul, jw_lt, jw_le, jw_eq, jw_div, Int.toNat_natCast, if_pos, if_neg, if_true, if_false, Option.bind_some, Int.natCast_add, Int.natCast_mul, Int.cast_ofNat_Int, Int.reduceToNat, Int.reduceAdd, Int.reduceMul, Int.reduceSub, Int.reduceNeg, Nat.reduceAdd, Nat.reduceMul]
    · simp (disch := omega) only [Bool.false_eq_true, jz_lit, jz_neg, jz_nat, jz_add, jz_sub, jz_mul, jz_lt, jz_le, jz_eq, jz_ix, jin_z, jz_div, jzw, jwz, jw_lit, jw_neg, jw_add, jw_sub, jw_mul, jw_lt, jw_le, jw_eq, jw_div, Int.toNat_natCast, if_pos, if_neg, if_true, if_false, Option.bind_some, Int.natCast_add, Int.natCast_mul, Int.cast_ofNat_Int, Int.reduceToNat, Int.reduceAdd, Int.reduceMul, Int.reduceSub, Int.reduceNeg, Nat.reduceAdd, Nat.reduceMul]
