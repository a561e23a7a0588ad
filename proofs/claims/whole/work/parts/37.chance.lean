/-! Weeks by the seed -/
def eNx (s : Nat) : Nat := (1103515245 * s + 12345) % 2147483648
theorem eNx_lt (s : Nat) : eNx s < 2147483648 := Nat.mod_lt _ (by omega)
theorem jw_nat (n : Nat) : Int64.ofNat n = jw n := (Int64.ofInt_eq_ofNat).symm
theorem jw_and31 (n : Nat) : jw n &&& jw 2147483647 = jw ((n % 2147483648 : Nat) : Int) := by
  rw [show (2147483647 : Int) = ((2147483647 : Nat) : Int) from rfl, ← jw_nat, ← jw_nat, ← jw_nat]
  rw [← Int64.toBitVec_inj]
  show BitVec.ofNat 64 n &&& BitVec.ofNat 64 2147483647 = BitVec.ofNat 64 (n % 2147483648)
  rw [← BitVec.ofNat_and, show n &&& 2147483647 = n % 2147483648 from Nat.and_two_pow_sub_one_eq_mod n 31]
theorem eMod_i {x m : Int} (h : 0 ≤ x) : x - x.tdiv m * m = x % m := by
  rw [tdiv_nn h, Int.mul_comm, ← Int.emod_def]
section ED
variable {p d g : Nat} {D S : jD} {h : jH}
theorem sA_draw {m s : Nat} (hm : 0 < m ∧ m ≤ 1000) (hs : s < 2147483648) (e : h.1 1 13 = jz s) : fA_draw (jz m) h = some (jz ((eNx s / 64 % m : Nat) : Int), jhI h 1 13 (jz (eNx s))) := by
  have h1 := eNx_lt s
  have e6 := jbit_shr (v := eNx s) (k := 6) (by omega) (by omega)
  rw [show jz ((6 : Nat) : Int) = jz 6 from rfl, show eNx s / 2 ^ 6 = eNx s / 64 from rfl] at e6
  have ea : jw (1103515245 * (s : Int) + 12345) &&& jw 2147483647 = jw (eNx s) := by
    have := jw_and31 (1103515245 * s + 12345)
    rw [show ((1103515245 * s + 12345 : Nat) : Int) = 1103515245 * (s : Int) + 12345 by omega] at this
    exact this
  unfold fA_draw
  rw [e]
  simp (disch := omega) only [Bool.false_eq_true, jz_lit, jz_neg, jz_nat, jz_add, jz_sub, jz_mul, jz_lt, jz_le, jz_eq, jz_ix, jin_z, jz_div, jzw, jwz, jw_lit, jw_neg, jw_add, jw_sub, jw_mul, jw_lt, jw_le, jw_eq, jw_div, Int.toNat_natCast, if_pos, if_neg, if_true, if_false, Option.bind_some, Int.natCast_add, Int.natCast_mul, Int.cast_ofNat_Int, Int.reduceToNat, Int.reduceAdd, Int.reduceMul, Int.reduceSub, Int.reduceNeg, Nat.reduceAdd, Nat.reduceMul, ea, jhI_1, and_self, e6]
  rw [eMod_i (by omega), ← Int.natCast_emod]
theorem sM_drawOf {m s : Nat} (hm : 0 < m ∧ m ≤ 1000) (hs : s < 2147483648) (e : h.2 110 58 = jw s) : fM_drawOf (jz m) h = some (jz ((eNx s / 64 % m : Nat) : Int), jhL h 110 58 (jw (eNx s))) := by
  have h1 := eNx_lt s
  have ea : (1103515245 * (s : Int) + 12345) - (1103515245 * (s : Int) + 12345).tdiv 2147483648 * 2147483648 = eNx s := by
    rw [eMod_i (by omega)]
    unfold eNx
    omega
  have eb : ((eNx s : Nat) : Int).tdiv 64 = ((eNx s / 64 : Nat) : Int) := by rw [tdiv_nn (by omega)]; omega
  unfold fM_drawOf
  rw [e]
  simp (disch := omega) only [Bool.false_eq_true, jz_lit, jz_neg, jz_nat, jz_add, jz_sub, jz_mul, jz_lt, jz_le, jz_eq, jz_ix, jin_z, jz_div, jzw, jwz, jw_lit, jw_neg, jw_add, jw_sub, jw_mul, jw_lt, jw_le, jw_eq, jw_div, Int.toNat_natCast, if_pos, if_neg, if_true, if_false, Option.bind_some, Int.natCast_add, Int.natCast_mul, Int.cast_ofNat_Int, Int.reduceToNat, Int.reduceAdd, Int.reduceMul, Int.reduceSub, Int.reduceNeg, Nat.reduceAdd, Nat.reduceMul, ea, jhL_2, and_self, eb]
  rw [eMod_i (by omega), ← Int.natCast_emod]
def eWk (D S : jD) (s c : Nat) : Nat → jD × Nat × Nat
  | 0 => (S, s, c)
  | n + 1 => if (eWk D S s c n).1 1 n = 1 then
      (if ((eNx (eWk D S s c n).2.1 / 64 % 100 : Nat) : Int) < D 0 8 then (eUp (eWk D S s c n).1 1 n (if ((eNx (eNx (eWk D S s c n).2.1) / 64 % 10 : Nat) : Int) < D 3 n then 2 else 3), eNx (eNx (eWk D S s c n).2.1), (eWk D S s c n).2.2 + 1)
      else ((eWk D S s c n).1, eNx (eWk D S s c n).2.1, (eWk D S s c n).2.2))
    else eWk D S s c n
theorem eWk_c (D S : jD) (s c : Nat) : ∀ n, eWk D S s c n = ((eWk D S s 0 n).1, (eWk D S s 0 n).2.1, c + (eWk D S s 0 n).2.2) := by
  intro n
  induction n with
  | zero => rfl
  | succ n ih =>
    unfold eWk
    rw [ih]
    by_cases e : (eWk D S s 0 n).1 1 n = 1
    · rw [if_pos e, if_pos e]
      by_cases f : ((eNx (eWk D S s 0 n).2.1 / 64 % 100 : Nat) : Int) < D 0 8
      · rw [if_pos f, if_pos f]; simp only [Nat.add_assoc]
      · rw [if_neg f, if_neg f]
    · rw [if_neg e, if_neg e]
theorem eWk_b {s c : Nat} (bs : bS g S) (hs : s < 2147483648) : ∀ n, n ≤ g → bS g (eWk D S s c n).1 ∧ (eWk D S s c n).2.1 < 2147483648 ∧ (eWk D S s c n).2.2 ≤ c + n ∧ (eWk D S s c n).1 0 1 = S 0 1 := by
  intro n
  induction n with
  | zero => intro _; exact ⟨bs, hs, Nat.le_refl _, rfl⟩
  | succ n ih =>
    intro hn
    obtain ⟨a1, a2, a3, a4⟩ := ih (by omega)
    unfold eWk
    by_cases e : (eWk D S s c n).1 1 n = 1
    · rw [if_pos e]
      by_cases f : ((eNx (eWk D S s c n).2.1 / 64 % 100 : Nat) : Int) < D 0 8
      · rw [if_pos f]
        refine ⟨eUp_b1 a1 (by omega) (by split <;> omega), eNx_lt _, by show (eWk D S s c n).2.2 + 1 ≤ c + (n + 1); omega, ?_⟩
        simp [eUp]
        exact a4
      · rw [if_neg f]; exact ⟨a1, eNx_lt _, by show (eWk D S s c n).2.2 ≤ c + (n + 1); omega, a4⟩
    · rw [if_neg e]; exact ⟨a1, a2, by omega, a4⟩
theorem sA_week {s : Nat} (hpd : iPD p d) (b : bV g D) (c : cV p g D h) (bs : bS g S) (cs : cS 11 S h) (ht : D 0 10 = 1) (hs : s < 2147483648) (e : h.1 1 13 = jz s) : ∃ h', jlim (fA_passWeekBySeed_l12 p) (0, 0, h) = some (jz ((eWk D S s 0 g).2.2 : Int), h') ∧ eFr (fun o k => o = 12 ∨ (o = 1 ∧ k = 13)) h h' ∧ cS 11 (eWk D S s 0 g).1 h' ∧ h'.1 1 13 = jz ((eWk D S s 0 g).2.1 : Int) := by
  have b0 := b.1
  have b2 := b.2.1
  have hpd2 := hpd
  unfold iPD at hpd2
  have hl := jlim_cnt (step := fA_passWeekBySeed_l12 p) (fun k (x : Int32 × jH) => (x.1, jz k, x.2)) (fun k x => x.1 = jz ((eWk D S s 0 k).2.2 : Int) ∧ eFr (fun o k => o = 12 ∨ (o = 1 ∧ k = 13)) h x.2 ∧ cS 11 (eWk D S s 0 k).1 x.2 ∧ x.2.1 1 13 = jz ((eWk D S s 0 k).2.1 : Int)) (fun x => x.1 = jz ((eWk D S s 0 g).2.2 : Int) ∧ eFr (fun o k => o = 12 ∨ (o = 1 ∧ k = 13)) h x.2 ∧ cS 11 (eWk D S s 0 g).1 x.2 ∧ x.2.1 1 13 = jz ((eWk D S s 0 g).2.1 : Int)) g g 0 (by omega) (0, h) ⟨rfl, eFr_refl _ _, cs, e⟩ ?_ ?_
  · obtain ⟨x, e1, r0, r1, r2, r3⟩ := hl
    refine ⟨x.2, ?_, r1, r2, r3⟩
    rw [← r0]
    exact e1
  · rintro k ⟨n, x⟩ _ hk ⟨q0, q1, q2, q3⟩
    simp only at q0 q1 q2 q3
    obtain ⟨w1, w2, w3, w4⟩ := eWk_b (D := D) (c := 0) bs hs k (by omega)
    have c1 : cV p g D x := cV_fr (fun o k hk => q1.1 o k (by omega)) c
    have cs1 := cS11 q2
    have c8 := (c1.2.2.1.2 ht).2.1
    have c3 := (c1.2.2.2.1 k hk).1
    have b3 := b.2.2.2.1 k hk
    have bk := w1.2.2.2.2 k (by omega)
    have es : eWk D S s 0 (k + 1) = if (eWk D S s 0 k).1 1 k = 1 then
      (if ((eNx (eWk D S s 0 k).2.1 / 64 % 100 : Nat) : Int) < D 0 8 then (eUp (eWk D S s 0 k).1 1 k (if ((eNx (eNx (eWk D S s 0 k).2.1) / 64 % 10 : Nat) : Int) < D 3 k then 2 else 3), eNx (eNx (eWk D S s 0 k).2.1), (eWk D S s 0 k).2.2 + 1)
      else ((eWk D S s 0 k).1, eNx (eWk D S s 0 k).2.1, (eWk D S s 0 k).2.2))
    else eWk D S s 0 k := rfl
    generalize eWk D S s 0 k = r at *
    obtain ⟨S1, s1, n1⟩ := r
    simp only at *
    have d1 := sA_draw (h := x) (m := 100) (s := s1) (by omega) w2 q3
    have d2 := sA_draw (h := jhI x 1 13 (jz (eNx s1))) (m := 10) (s := eNx s1) (by omega) (eNx_lt _) rfl
    rw [show jz ((100 : Nat) : Int) = jz 100 from rfl] at d1
    rw [show jz ((10 : Nat) : Int) = jz 10 from rfl] at d2
    have cs1a := cs1.2.2 k (by omega)
    simp only [fA_passWeekBySeed_l12, fA_passWeekBySeed_l12_b, fA_passWeekBySeed_l12_j80, fA_passWeekBySeed_l12_j84, c1.1, q0, jss_12]
    by_cases g1 : S1 1 k = 1
    · have m1 : eNx s1 / 64 % 100 < 100 := Nat.mod_lt _ (by omega)
      have m2 : eNx (eNx s1) / 64 % 10 < 10 := Nat.mod_lt _ (by omega)
      by_cases g2 : ((eNx s1 / 64 % 100 : Nat) : Int) < D 0 8
      · rw [if_pos g1, if_pos g2] at es
        by_cases g3 : ((eNx (eNx s1) / 64 % 10 : Nat) : Int) < D 3 k
        · rw [if_pos g3] at es
          refine ⟨(jz ((n1 + 1 : Nat) : Int), jhI (jhI (jhI x 1 13 (jz (eNx s1))) 1 13 (jz (eNx (eNx s1)))) 12 k (jz 2)), ?_, ?_⟩
          · simp (disch := omega) only [Bool.false_eq_true, jz_lit, jz_neg, jz_nat, jz_add, jz_sub, jz_mul, jz_lt, jz_le, jz_eq, jz_ix, jin_z, jz_div, jzw, jwz, jw_lit, jw_neg, jw_add, jw_sub, jw_mul, jw_lt, jw_le, jw_eq, jw_div, Int.toNat_natCast, if_pos, if_neg, if_true, if_false, Option.bind_some, Int.natCast_add, Int.natCast_mul, Int.cast_ofNat_Int, Int.reduceToNat, Int.reduceAdd, Int.reduceMul, Int.reduceSub, Int.reduceNeg, Nat.reduceAdd, Nat.reduceMul, cs1a, g1, d1, jhI_1, c8, d2, c3]
            try (simp (disch := omega) only [jhI_1, jhI_2, jhL_1, jhL_2, if_neg, if_pos, eq_self, and_self, if_true, if_false, Nat.reduceEqDiff, false_and, and_false, true_and, and_true, c8, c3])
            try (simp (disch := omega) only [Bool.false_eq_true, jz_lit, jz_neg, jz_nat, jz_add, jz_sub, jz_mul, jz_lt, jz_le, jz_eq, jz_ix, jin_z, jz_div, jzw, jwz, jw_lit, jw_neg, jw_add, jw_sub, jw_mul, jw_lt, jw_le, jw_eq, jw_div, Int.toNat_natCast, if_pos, if_neg, if_true, if_false, Option.bind_some, Int.natCast_add, Int.natCast_mul, Int.cast_ofNat_Int, Int.reduceToNat, Int.reduceAdd, Int.reduceMul, Int.reduceSub, Int.reduceNeg, Nat.reduceAdd, Nat.reduceMul, d2, c3, jss_12])
            try (simp (disch := omega) only [jhI_1, jhI_2, jhL_1, jhL_2, if_neg, if_pos, eq_self, and_self, if_true, if_false, Nat.reduceEqDiff, false_and, and_false, true_and, and_true, c3])
            try (simp (disch := omega) only [Bool.false_eq_true, jz_lit, jz_neg, jz_nat, jz_add, jz_sub, jz_mul, jz_lt, jz_le, jz_eq, jz_ix, jin_z, jz_div, jzw, jwz, jw_lit, jw_neg, jw_add, jw_sub, jw_mul, jw_lt, jw_le, jw_eq, jw_div, Int.toNat_natCast, if_pos, if_neg, if_true, if_false, Option.bind_some, Int.natCast_add, Int.natCast_mul, Int.cast_ofNat_Int, Int.reduceToNat, Int.reduceAdd, Int.reduceMul, Int.reduceSub, Int.reduceNeg, Nat.reduceAdd, Nat.reduceMul, jss_12])
          · rw [es]
            refine ⟨rfl, eFr_I (S := fun o k => o = 12 ∨ (o = 1 ∧ k = 13)) (eFr_I (S := fun o k => o = 12 ∨ (o = 1 ∧ k = 13)) (eFr_I (S := fun o k => o = 12 ∨ (o = 1 ∧ k = 13)) q1 (Or.inr ⟨rfl, rfl⟩) _) (Or.inr ⟨rfl, rfl⟩) _) (Or.inl rfl) _, cS_up1 (v := 2) (cS_fr (fun o k hk => by rw [jhI_1, if_neg (by omega), jhI_1, if_neg (by omega)]) q2) (by omega), rfl⟩
        · rw [if_neg g3] at es
          refine ⟨(jz ((n1 + 1 : Nat) : Int), jhI (jhI (jhI x 1 13 (jz (eNx s1))) 1 13 (jz (eNx (eNx s1)))) 12 k (jz 3)), ?_, ?_⟩
          · simp (disch := omega) only [Bool.false_eq_true, jz_lit, jz_neg, jz_nat, jz_add, jz_sub, jz_mul, jz_lt, jz_le, jz_eq, jz_ix, jin_z, jz_div, jzw, jwz, jw_lit, jw_neg, jw_add, jw_sub, jw_mul, jw_lt, jw_le, jw_eq, jw_div, Int.toNat_natCast, if_pos, if_neg, if_true, if_false, Option.bind_some, Int.natCast_add, Int.natCast_mul, Int.cast_ofNat_Int, Int.reduceToNat, Int.reduceAdd, Int.reduceMul, Int.reduceSub, Int.reduceNeg, Nat.reduceAdd, Nat.reduceMul, cs1a, g1, d1, jhI_1, c8, d2, c3]
            try (simp (disch := omega) only [jhI_1, jhI_2, jhL_1, jhL_2, if_neg, if_pos, eq_self, and_self, if_true, if_false, Nat.reduceEqDiff, false_and, and_false, true_and, and_true, c8, c3])
            try (simp (disch := omega) only [Bool.false_eq_true, jz_lit, jz_neg, jz_nat, jz_add, jz_sub, jz_mul, jz_lt, jz_le, jz_eq, jz_ix, jin_z, jz_div, jzw, jwz, jw_lit, jw_neg, jw_add, jw_sub, jw_mul, jw_lt, jw_le, jw_eq, jw_div, Int.toNat_natCast, if_pos, if_neg, if_true, if_false, Option.bind_some, Int.natCast_add, Int.natCast_mul, Int.cast_ofNat_Int, Int.reduceToNat, Int.reduceAdd, Int.reduceMul, Int.reduceSub, Int.reduceNeg, Nat.reduceAdd, Nat.reduceMul, d2, c3, jss_12])
            try (simp (disch := omega) only [jhI_1, jhI_2, jhL_1, jhL_2, if_neg, if_pos, eq_self, and_self, if_true, if_false, Nat.reduceEqDiff, false_and, and_false, true_and, and_true, c3])
            try (simp (disch := omega) only [Bool.false_eq_true, jz_lit, jz_neg, jz_nat, jz_add, jz_sub, jz_mul, jz_lt, jz_le, jz_eq, jz_ix, jin_z, jz_div, jzw, jwz, jw_lit, jw_neg, jw_add, jw_sub, jw_mul, jw_lt, jw_le, jw_eq, jw_div, Int.toNat_natCast, if_pos, if_neg, if_true, if_false, Option.bind_some, Int.natCast_add, Int.natCast_mul, Int.cast_ofNat_Int, Int.reduceToNat, Int.reduceAdd, Int.reduceMul, Int.reduceSub, Int.reduceNeg, Nat.reduceAdd, Nat.reduceMul, jss_12])
          · rw [es]
            refine ⟨rfl, eFr_I (S := fun o k => o = 12 ∨ (o = 1 ∧ k = 13)) (eFr_I (S := fun o k => o = 12 ∨ (o = 1 ∧ k = 13)) (eFr_I (S := fun o k => o = 12 ∨ (o = 1 ∧ k = 13)) q1 (Or.inr ⟨rfl, rfl⟩) _) (Or.inr ⟨rfl, rfl⟩) _) (Or.inl rfl) _, cS_up1 (v := 3) (cS_fr (fun o k hk => by rw [jhI_1, if_neg (by omega), jhI_1, if_neg (by omega)]) q2) (by omega), rfl⟩
      · rw [if_pos g1, if_neg g2] at es
        refine ⟨(jz (n1 : Int), jhI x 1 13 (jz (eNx s1))), ?_, ?_⟩
        · simp (disch := omega) only [Bool.false_eq_true, jz_lit, jz_neg, jz_nat, jz_add, jz_sub, jz_mul, jz_lt, jz_le, jz_eq, jz_ix, jin_z, jz_div, jzw, jwz, jw_lit, jw_neg, jw_add, jw_sub, jw_mul, jw_lt, jw_le, jw_eq, jw_div, Int.toNat_natCast, if_pos, if_neg, if_true, if_false, Option.bind_some, Int.natCast_add, Int.natCast_mul, Int.cast_ofNat_Int, Int.reduceToNat, Int.reduceAdd, Int.reduceMul, Int.reduceSub, Int.reduceNeg, Nat.reduceAdd, Nat.reduceMul, cs1a, g1, d1, jhI_1, c8]
          try (simp (disch := omega) only [jhI_1, jhI_2, jhL_1, jhL_2, if_neg, if_pos, eq_self, and_self, if_true, if_false, Nat.reduceEqDiff, false_and, and_false, true_and, and_true, c8])
          try (simp (disch := omega) only [Bool.false_eq_true, jz_lit, jz_neg, jz_nat, jz_add, jz_sub, jz_mul, jz_lt, jz_le, jz_eq, jz_ix, jin_z, jz_div, jzw, jwz, jw_lit, jw_neg, jw_add, jw_sub, jw_mul, jw_lt, jw_le, jw_eq, jw_div, Int.toNat_natCast, if_pos, if_neg, if_true, if_false, Option.bind_some, Int.natCast_add, Int.natCast_mul, Int.cast_ofNat_Int, Int.reduceToNat, Int.reduceAdd, Int.reduceMul, Int.reduceSub, Int.reduceNeg, Nat.reduceAdd, Nat.reduceMul])
        · rw [es]
          exact ⟨rfl, eFr_I (S := fun o k => o = 12 ∨ (o = 1 ∧ k = 13)) q1 (Or.inr ⟨rfl, rfl⟩) _, cS_fr (fun o k hk => by rw [jhI_1, if_neg (by omega)]) q2, rfl⟩
    · rw [if_neg g1] at es
      refine ⟨(jz (n1 : Int), x), ?_, ?_⟩
      · simp (disch := omega) only [Bool.false_eq_true, jz_lit, jz_neg, jz_nat, jz_add, jz_sub, jz_mul, jz_lt, jz_le, jz_eq, jz_ix, jin_z, jz_div, jzw, jwz, jw_lit, jw_neg, jw_add, jw_sub, jw_mul, jw_lt, jw_le, jw_eq, jw_div, Int.toNat_natCast, if_pos, if_neg, if_true, if_false, Option.bind_some, Int.natCast_add, Int.natCast_mul, Int.cast_ofNat_Int, Int.reduceToNat, Int.reduceAdd, Int.reduceMul, Int.reduceSub, Int.reduceNeg, Nat.reduceAdd, Nat.reduceMul, cs1a, g1]
      · rw [es]; exact ⟨rfl, q1, q2, q3⟩
  · rintro ⟨n, x⟩ ⟨q0, q1, q2, q3⟩
    simp only at q0 q1 q2 q3
    have c1 : cV p g D x := cV_fr (fun o k hk => q1.1 o k (by omega)) c
    refine ⟨(n, x), ?_, q0, q1, q2, q3⟩
    simp only [fA_passWeekBySeed_l12, fA_passWeekBySeed_l12_b, c1.1]
    simp (disch := omega) only [Bool.false_eq_true, jz_lit, jz_neg, jz_nat, jz_add, jz_sub, jz_mul, jz_lt, jz_le, jz_eq, jz_ix, jin_z, jz_div, jzw, jwz, jw_lit, jw_neg, jw_add, jw_sub, jw_mul, jw_lt, jw_le, jw_eq, jw_div, Int.toNat_natCast, if_pos, if_neg, if_true, if_false, Option.bind_some, Int.natCast_add, Int.natCast_mul, Int.cast_ofNat_Int, Int.reduceToNat, Int.reduceAdd, Int.reduceMul, Int.reduceSub, Int.reduceNeg, Nat.reduceAdd, Nat.reduceMul]
theorem sM_week {s c0 : Nat} (b : bV g D) (m : mV g D h) (bs : bS g S) (ms : mS S h) (ht : D 0 10 = 1) (hs : s < 2147483648) (e : h.2 110 58 = jw s) (w0 w1 : Int32) : ∃ h', jlim (fM_chance_l36 w0 w1) (jz c0, 0, h) = some (jz ((eWk D S s c0 g).2.2 : Int), h') ∧ eFr (fun o k => (o = 148 ∧ k < 18) ∨ (o = 110 ∧ k = 58)) h h' ∧ mS (eWk D S s c0 g).1 h' ∧ h'.2 110 58 = jw ((eWk D S s c0 g).2.1 : Int) := by
  have b0 := b.1
  have b2 := b.2.1
  have hl := jlim_cnt (step := fM_chance_l36 w0 w1) (fun k (x : Int32 × jH) => (x.1, jz k, x.2)) (fun k x => x.1 = jz ((eWk D S s c0 k).2.2 : Int) ∧ eFr (fun o k => (o = 148 ∧ k < 18) ∨ (o = 110 ∧ k = 58)) h x.2 ∧ mS (eWk D S s c0 k).1 x.2 ∧ x.2.2 110 58 = jw ((eWk D S s c0 k).2.1 : Int)) (fun x => x.1 = jz ((eWk D S s c0 g).2.2 : Int) ∧ eFr (fun o k => (o = 148 ∧ k < 18) ∨ (o = 110 ∧ k = 58)) h x.2 ∧ mS (eWk D S s c0 g).1 x.2 ∧ x.2.2 110 58 = jw ((eWk D S s c0 g).2.1 : Int)) g g 0 (by omega) (jz c0, h) ⟨rfl, eFr_refl _ _, ms, e⟩ ?_ ?_
  · obtain ⟨x, e1, r0, r1, r2, r3⟩ := hl
    refine ⟨x.2, ?_, r1, r2, r3⟩
    rw [← r0]
    exact e1
  · rintro k ⟨n, x⟩ _ hk ⟨q0, q1, q2, q3⟩
    simp only at q0 q1 q2 q3
    obtain ⟨u1, u2, u3, u4⟩ := eWk_b (D := D) (c := c0) bs hs k (by omega)
    have m1 : mV g D x := mV_fr (fun o k hk => q1.1 o k (by omega)) m
    have m8 := (m1.2.2.1.2 ht).2.1
    have b3 := b.2.2.2.1 k hk
    have bk := u1.2.2.2.2 k (by omega)
    have es : eWk D S s c0 (k + 1) = if (eWk D S s c0 k).1 1 k = 1 then
      (if ((eNx (eWk D S s c0 k).2.1 / 64 % 100 : Nat) : Int) < D 0 8 then (eUp (eWk D S s c0 k).1 1 k (if ((eNx (eNx (eWk D S s c0 k).2.1) / 64 % 10 : Nat) : Int) < D 3 k then 2 else 3), eNx (eNx (eWk D S s c0 k).2.1), (eWk D S s c0 k).2.2 + 1)
      else ((eWk D S s c0 k).1, eNx (eWk D S s c0 k).2.1, (eWk D S s c0 k).2.2))
    else eWk D S s c0 k := rfl
    generalize eWk D S s c0 k = r at *
    obtain ⟨S1, s1, n1⟩ := r
    simp only at *
    have d1 := sM_drawOf (h := x) (m := 100) (s := s1) (by omega) u2 q3
    have d2 := sM_drawOf (h := jhL x 110 58 (jw (eNx s1))) (m := 10) (s := eNx s1) (by omega) (eNx_lt _) rfl
    rw [show jz ((100 : Nat) : Int) = jz 100 from rfl] at d1
    rw [show jz ((10 : Nat) : Int) = jz 10 from rfl] at d2
    have hw := sM_howOf q2 (show k < 8 by omega)
    have told := sM_toldOf (h := jhL (jhL x 110 58 (jw (eNx s1))) 110 58 (jw (eNx (eNx s1)))) b m1 hk
    have i1 : ((2 : Int) + 2 * (k : Int)).toNat = 2 + 2 * k := by omega
    simp only [fM_chance_l36, fM_chance_l36_b, fM_chance_l36_j103, fM_chance_l36_j107, sM_guestMany m1, q0, jss_148]
    by_cases g1 : S1 1 k = 1
    · have k1 : eNx s1 / 64 % 100 < 100 := Nat.mod_lt _ (by omega)
      have k2 : eNx (eNx s1) / 64 % 10 < 10 := Nat.mod_lt _ (by omega)
      by_cases g2 : ((eNx s1 / 64 % 100 : Nat) : Int) < D 0 8
      · rw [if_pos g1, if_pos g2] at es
        by_cases g3 : ((eNx (eNx s1) / 64 % 10 : Nat) : Int) < D 3 k
        · rw [if_pos g3] at es
          refine ⟨(jz ((n1 + 1 : Nat) : Int), jhI (jhL (jhL x 110 58 (jw (eNx s1))) 110 58 (jw (eNx (eNx s1)))) 148 (2 + 2 * k) (jz 2)), ?_, ?_⟩
          · simp (disch := omega) only [Bool.false_eq_true, jz_lit, jz_neg, jz_nat, jz_add, jz_sub, jz_mul, jz_lt, jz_le, jz_eq, jz_ix, jin_z, jz_div, jzw, jwz, jw_lit, jw_neg, jw_add, jw_sub, jw_mul, jw_lt, jw_le, jw_eq, jw_div, Int.toNat_natCast, if_pos, if_neg, if_true, if_false, Option.bind_some, Int.natCast_add, Int.natCast_mul, Int.cast_ofNat_Int, Int.reduceToNat, Int.reduceAdd, Int.reduceMul, Int.reduceSub, Int.reduceNeg, Nat.reduceAdd, Nat.reduceMul, hw, g1, d1, jhL_1, m8, d2, told, i1, jss_148]
          · rw [es]
            refine ⟨rfl, eFr_I (S := fun o k => (o = 148 ∧ k < 18) ∨ (o = 110 ∧ k = 58)) (eFr_L (S := fun o k => (o = 148 ∧ k < 18) ∨ (o = 110 ∧ k = 58)) (eFr_L (S := fun o k => (o = 148 ∧ k < 18) ∨ (o = 110 ∧ k = 58)) q1 (Or.inr ⟨rfl, rfl⟩) _) (Or.inr ⟨rfl, rfl⟩) _) (Or.inl ⟨rfl, by omega⟩) _, mS_up1 (v := 2) (mS_fr (fun k => by rw [jhL_1, jhL_1]) q2) (by omega), rfl⟩
        · rw [if_neg g3] at es
          refine ⟨(jz ((n1 + 1 : Nat) : Int), jhI (jhL (jhL x 110 58 (jw (eNx s1))) 110 58 (jw (eNx (eNx s1)))) 148 (2 + 2 * k) (jz 3)), ?_, ?_⟩
          · simp (disch := omega) only [Bool.false_eq_true, jz_lit, jz_neg, jz_nat, jz_add, jz_sub, jz_mul, jz_lt, jz_le, jz_eq, jz_ix, jin_z, jz_div, jzw, jwz, jw_lit, jw_neg, jw_add, jw_sub, jw_mul, jw_lt, jw_le, jw_eq, jw_div, Int.toNat_natCast, if_pos, if_neg, if_true, if_false, Option.bind_some, Int.natCast_add, Int.natCast_mul, Int.cast_ofNat_Int, Int.reduceToNat, Int.reduceAdd, Int.reduceMul, Int.reduceSub, Int.reduceNeg, Nat.reduceAdd, Nat.reduceMul, hw, g1, d1, jhL_1, m8, d2, told, i1, jss_148]
          · rw [es]
            refine ⟨rfl, eFr_I (S := fun o k => (o = 148 ∧ k < 18) ∨ (o = 110 ∧ k = 58)) (eFr_L (S := fun o k => (o = 148 ∧ k < 18) ∨ (o = 110 ∧ k = 58)) (eFr_L (S := fun o k => (o = 148 ∧ k < 18) ∨ (o = 110 ∧ k = 58)) q1 (Or.inr ⟨rfl, rfl⟩) _) (Or.inr ⟨rfl, rfl⟩) _) (Or.inl ⟨rfl, by omega⟩) _, mS_up1 (v := 3) (mS_fr (fun k => by rw [jhL_1, jhL_1]) q2) (by omega), rfl⟩
      · rw [if_pos g1, if_neg g2] at es
        refine ⟨(jz (n1 : Int), jhL x 110 58 (jw (eNx s1))), ?_, ?_⟩
        · simp (disch := omega) only [Bool.false_eq_true, jz_lit, jz_neg, jz_nat, jz_add, jz_sub, jz_mul, jz_lt, jz_le, jz_eq, jz_ix, jin_z, jz_div, jzw, jwz, jw_lit, jw_neg, jw_add, jw_sub, jw_mul, jw_lt, jw_le, jw_eq, jw_div, Int.toNat_natCast, if_pos, if_neg, if_true, if_false, Option.bind_some, Int.natCast_add, Int.natCast_mul, Int.cast_ofNat_Int, Int.reduceToNat, Int.reduceAdd, Int.reduceMul, Int.reduceSub, Int.reduceNeg, Nat.reduceAdd, Nat.reduceMul, hw, g1, d1, jhL_1, m8]
        · rw [es]
          exact ⟨rfl, eFr_L (S := fun o k => (o = 148 ∧ k < 18) ∨ (o = 110 ∧ k = 58)) q1 (Or.inr ⟨rfl, rfl⟩) _, mS_fr (fun k => by rw [jhL_1]) q2, rfl⟩
    · rw [if_neg g1] at es
      refine ⟨(jz (n1 : Int), x), ?_, ?_⟩
      · simp (disch := omega) only [Bool.false_eq_true, jz_lit, jz_neg, jz_nat, jz_add, jz_sub, jz_mul, jz_lt, jz_le, jz_eq, jz_ix, jin_z, jz_div, jzw, jwz, jw_lit, jw_neg, jw_add, jw_sub, jw_mul, jw_lt, jw_le, jw_eq, jw_div, Int.toNat_natCast, if_pos, if_neg, if_true, if_false, Option.bind_some, Int.natCast_add, Int.natCast_mul, Int.cast_ofNat_Int, Int.reduceToNat, Int.reduceAdd, Int.reduceMul, Int.reduceSub, Int.reduceNeg, Nat.reduceAdd, Nat.reduceMul, hw, g1]
      · rw [es]; exact ⟨rfl, q1, q2, q3⟩
  · rintro ⟨n, x⟩ ⟨q0, q1, q2, q3⟩
    simp only at q0 q1 q2 q3
    have m1 : mV g D x := mV_fr (fun o k hk => q1.1 o k (by omega)) m
    refine ⟨(n, x), ?_, q0, q1, q2, q3⟩
    simp only [fM_chance_l36, fM_chance_l36_b, sM_guestMany m1]
    simp (disch := omega) only [Bool.false_eq_true, jz_lit, jz_neg, jz_nat, jz_add, jz_sub, jz_mul, jz_lt, jz_le, jz_eq, jz_ix, jin_z, jz_div, jzw, jwz, jw_lit, jw_neg, jw_add, jw_sub, jw_mul, jw_lt, jw_le, jw_eq, jw_div, Int.toNat_natCast, if_pos, if_neg, if_true, if_false, Option.bind_some, Int.natCast_add, Int.natCast_mul, Int.cast_ofNat_Int, Int.reduceToNat, Int.reduceAdd, Int.reduceMul, Int.reduceSub, Int.reduceNeg, Nat.reduceAdd, Nat.reduceMul]
def eCh (D S : jD) (s g : Nat) : Nat → jD × Nat × Nat
  | 0 => (S, s, 0)
  | n + 1 => (eUp (eWk D (eCh D S s g n).1 (eCh D S s g n).2.1 (eCh D S s g n).2.2 g).1 0 1 ((eCh D S s g n).1 0 1 + 1), (eWk D (eCh D S s g n).1 (eCh D S s g n).2.1 (eCh D S s g n).2.2 g).2.1, (eWk D (eCh D S s g n).1 (eCh D S s g n).2.1 (eCh D S s g n).2.2 g).2.2)
theorem eCh_b {s : Nat} (bs : bS g S) (hs : s < 2147483648) : ∀ n : Nat, S 0 1 + n ≤ 999 → bS g (eCh D S s g n).1 ∧ (eCh D S s g n).2.1 < 2147483648 ∧ (eCh D S s g n).2.2 ≤ n * g ∧ (eCh D S s g n).1 0 1 = S 0 1 + n := by
  intro n
  induction n with
  | zero => intro _; exact ⟨bs, hs, by simp [eCh], by simp [eCh]⟩
  | succ n ih =>
    intro hn
    obtain ⟨a1, a2, a3, a4⟩ := ih (by omega)
    obtain ⟨c1, c2, c3, c4⟩ := eWk_b (D := D) (c := (eCh D S s g n).2.2) a1 a2 g (Nat.le_refl _)
    refine ⟨eUp_b0 c1 (by omega), c2, ?_, ?_⟩
    · show (eWk D (eCh D S s g n).1 (eCh D S s g n).2.1 (eCh D S s g n).2.2 g).2.2 ≤ (n + 1) * g
      rw [Nat.add_mul]
      omega
    · show eUp (eWk D (eCh D S s g n).1 (eCh D S s g n).2.1 (eCh D S s g n).2.2 g).1 0 1 ((eCh D S s g n).1 0 1 + 1) 0 1 = _
      simp only [eUp, and_self, if_true]
      omega
theorem sA_chance {s n : Nat} (hpd : iPD p d) (q : Nat → Nat) (b : bV g D) (c : cV p g D h) (bs : bS g S) (cs : cS 11 S h) (ht : D 0 10 = 1) (hs : s < 2147483648) (hn : S 0 1 + n ≤ 999) (hn2 : n ≤ 99) (e : h.1 1 13 = jz s) : ∃ h', jlim (fA_chance_l30 p q (jz n)) (jz 0, jz 0, h) = some (jz ((eCh D S s g n).2.2 : Int), h') ∧ eFr (fun o k => (11 ≤ o ∧ o ≤ 13) ∨ (o = 1 ∧ k = 13)) h h' ∧ cS 11 (eCh D S s g n).1 h' ∧ h'.1 1 13 = jz ((eCh D S s g n).2.1 : Int) := by
  have b0 := b.1
  have hpd2 := hpd
  unfold iPD at hpd2
  have hl := jlim_cnt (step := fA_chance_l30 p q (jz n)) (fun k (x : Int32 × jH) => (x.1, jz k, x.2)) (fun k x => x.1 = jz ((eCh D S s g k).2.2 : Int) ∧ eFr (fun o k => (11 ≤ o ∧ o ≤ 13) ∨ (o = 1 ∧ k = 13)) h x.2 ∧ cS 11 (eCh D S s g k).1 x.2 ∧ x.2.1 1 13 = jz ((eCh D S s g k).2.1 : Int)) (fun x => x.1 = jz ((eCh D S s g n).2.2 : Int) ∧ eFr (fun o k => (11 ≤ o ∧ o ≤ 13) ∨ (o = 1 ∧ k = 13)) h x.2 ∧ cS 11 (eCh D S s g n).1 x.2 ∧ x.2.1 1 13 = jz ((eCh D S s g n).2.1 : Int)) n n 0 (by omega) (jz 0, h) ⟨rfl, eFr_refl _ _, cs, e⟩ ?_ ?_
  · obtain ⟨x, e1, r0, r1, r2, r3⟩ := hl
    refine ⟨x.2, ?_, r1, r2, r3⟩
    rw [← r0]
    exact e1
  · rintro k ⟨n1, x⟩ _ hk ⟨q0, q1, q2, q3⟩
    simp only at q0 q1 q2 q3
    obtain ⟨u1, u2, u3, u4⟩ := eCh_b (D := D) bs hs k (by omega)
    have c1 : cV p g D x := cV_fr (fun o k hk => q1.1 o k (by omega)) c
    obtain ⟨y, y1, y2, y3, y4⟩ := sA_week hpd b c1 u1 q2 ht u2 q3
    obtain ⟨t1, t2, t3, t4⟩ := eWk_b (D := D) (c := 0) u1 u2 g (Nat.le_refl _)
    have ec := eWk_c D (eCh D S s g k).1 (eCh D S s g k).2.1 (eCh D S s g k).2.2 g
    have es : eCh D S s g (k + 1) = (eUp (eWk D (eCh D S s g k).1 (eCh D S s g k).2.1 (eCh D S s g k).2.2 g).1 0 1 ((eCh D S s g k).1 0 1 + 1), (eWk D (eCh D S s g k).1 (eCh D S s g k).2.1 (eCh D S s g k).2.2 g).2.1, (eWk D (eCh D S s g k).1 (eCh D S s g k).2.1 (eCh D S s g k).2.2 g).2.2) := rfl
    rw [ec] at es
    have y0 := y3.1
    rw [t4] at y0
    refine ⟨(jz (((eCh D S s g k).2.2 + (eWk D (eCh D S s g k).1 (eCh D S s g k).2.1 0 g).2.2 : Nat) : Int), jhI y 11 0 (jz ((eCh D S s g k).1 0 1 + 1))), ?_, ?_⟩
    · have yy : jlim (fA_passWeekBySeed_l12 p) (jz 0, jz 0, x) = some (jz ((eWk D (eCh D S s g k).1 (eCh D S s g k).2.1 0 g).2.2 : Int), y) := y1
      simp only [fA_chance_l30, fA_chance_l30_b, fA_passWeekBySeed, q0]
      simp (disch := omega) only [Bool.false_eq_true, jz_lit, jz_neg, jz_nat, jz_add, jz_sub, jz_mul, jz_lt, jz_le, jz_eq, jz_ix, jin_z, jz_div, jzw, jwz, jw_lit, jw_neg, jw_add, jw_sub, jw_mul, jw_lt, jw_le, jw_eq, jw_div, Int.toNat_natCast, if_pos, if_neg, if_true, if_false, Option.bind_some, Int.natCast_add, Int.natCast_mul, Int.cast_ofNat_Int, Int.reduceToNat, Int.reduceAdd, Int.reduceMul, Int.reduceSub, Int.reduceNeg, Nat.reduceAdd, Nat.reduceMul, yy, y0]
    · rw [es]
      refine ⟨rfl, eFr_I (S := fun o k => (11 ≤ o ∧ o ≤ 13) ∨ (o = 1 ∧ k = 13)) (eFr_trans q1 (eFr_mono y2 (fun o k hk => by omega))) (by omega) _, cS_up0 y3, ?_⟩
      rw [jhI_1, if_neg (by omega)]; exact y4
  · rintro ⟨n1, x⟩ ⟨q0, q1, q2, q3⟩
    refine ⟨(n1, x), ?_, q0, q1, q2, q3⟩
    simp only [fA_chance_l30, fA_chance_l30_b]
    simp (disch := omega) only [Bool.false_eq_true, jz_lit, jz_neg, jz_nat, jz_add, jz_sub, jz_mul, jz_lt, jz_le, jz_eq, jz_ix, jin_z, jz_div, jzw, jwz, jw_lit, jw_neg, jw_add, jw_sub, jw_mul, jw_lt, jw_le, jw_eq, jw_div, Int.toNat_natCast, if_pos, if_neg, if_true, if_false, Option.bind_some, Int.natCast_add, Int.natCast_mul, Int.cast_ofNat_Int, Int.reduceToNat, Int.reduceAdd, Int.reduceMul, Int.reduceSub, Int.reduceNeg, Nat.reduceAdd, Nat.reduceMul]
theorem sM_chance {s n : Nat} (b : bV g D) (m : mV g D h) (bs : bS g S) (ms : mS S h) (ht : D 0 10 = 1) (hs : s < 2147483648) (hn : S 0 1 + n ≤ 999) (hn2 : n ≤ 99) (e : h.2 110 58 = jw s) : ∃ h', jlim (fM_chance_l28 (jz n)) (jz 0, jz 0, h) = some (jz ((eCh D S s g n).2.2 : Int), h') ∧ eFr (fun o k => (o = 148 ∧ k < 18) ∨ (o = 110 ∧ k = 58)) h h' ∧ mS (eCh D S s g n).1 h' ∧ h'.2 110 58 = jw ((eCh D S s g n).2.1 : Int) := by
  have b0 := b.1
  have hl := jlim_cnt (step := fM_chance_l28 (jz n)) (fun k (x : Int32 × jH) => (x.1, jz k, x.2)) (fun k x => x.1 = jz ((eCh D S s g k).2.2 : Int) ∧ eFr (fun o k => (o = 148 ∧ k < 18) ∨ (o = 110 ∧ k = 58)) h x.2 ∧ mS (eCh D S s g k).1 x.2 ∧ x.2.2 110 58 = jw ((eCh D S s g k).2.1 : Int)) (fun x => x.1 = jz ((eCh D S s g n).2.2 : Int) ∧ eFr (fun o k => (o = 148 ∧ k < 18) ∨ (o = 110 ∧ k = 58)) h x.2 ∧ mS (eCh D S s g n).1 x.2 ∧ x.2.2 110 58 = jw ((eCh D S s g n).2.1 : Int)) n n 0 (by omega) (jz 0, h) ⟨rfl, eFr_refl _ _, ms, e⟩ ?_ ?_
  · obtain ⟨x, e1, r0, r1, r2, r3⟩ := hl
    refine ⟨x.2, ?_, r1, r2, r3⟩
    rw [← r0]
    exact e1
  · rintro k ⟨n1, x⟩ _ hk ⟨q0, q1, q2, q3⟩
    simp only at q0 q1 q2 q3
    obtain ⟨u1, u2, u3, u4⟩ := eCh_b (D := D) bs hs k (by omega)
    have m1 : mV g D x := mV_fr (fun o k hk => q1.1 o k (by omega)) m
    obtain ⟨y, y1, y2, y3, y4⟩ := sM_week (c0 := (eCh D S s g k).2.2) b m1 u1 q2 ht u2 q3 (jz n) (jz k)
    obtain ⟨t1, t2, t3, t4⟩ := eWk_b (D := D) (c := (eCh D S s g k).2.2) u1 u2 g (Nat.le_refl _)
    have es : eCh D S s g (k + 1) = (eUp (eWk D (eCh D S s g k).1 (eCh D S s g k).2.1 (eCh D S s g k).2.2 g).1 0 1 ((eCh D S s g k).1 0 1 + 1), (eWk D (eCh D S s g k).1 (eCh D S s g k).2.1 (eCh D S s g k).2.2 g).2.1, (eWk D (eCh D S s g k).1 (eCh D S s g k).2.1 (eCh D S s g k).2.2 g).2.2) := rfl
    have y0 := y3.1
    rw [t4] at y0
    refine ⟨(jz ((eWk D (eCh D S s g k).1 (eCh D S s g k).2.1 (eCh D S s g k).2.2 g).2.2 : Int), jhI y 148 0 (jz ((eCh D S s g k).1 0 1 + 1))), ?_, ?_⟩
    · have yy : jlim (fM_chance_l36 (jz n) (jz k)) (jz ((eCh D S s g k).2.2 : Int), jz 0, x) = some (jz ((eWk D (eCh D S s g k).1 (eCh D S s g k).2.1 (eCh D S s g k).2.2 g).2.2 : Int), y) := y1
      simp only [fM_chance_l28, fM_chance_l28_b, q0]
      simp (disch := omega) only [Bool.false_eq_true, jz_lit, jz_neg, jz_nat, jz_add, jz_sub, jz_mul, jz_lt, jz_le, jz_eq, jz_ix, jin_z, jz_div, jzw, jwz, jw_lit, jw_neg, jw_add, jw_sub, jw_mul, jw_lt, jw_le, jw_eq, jw_div, Int.toNat_natCast, if_pos, if_neg, if_true, if_false, Option.bind_some, Int.natCast_add, Int.natCast_mul, Int.cast_ofNat_Int, Int.reduceToNat, Int.reduceAdd, Int.reduceMul, Int.reduceSub, Int.reduceNeg, Nat.reduceAdd, Nat.reduceMul, yy, y0]
    · rw [es]
      exact ⟨rfl, eFr_I (S := fun o k => (o = 148 ∧ k < 18) ∨ (o = 110 ∧ k = 58)) (eFr_trans q1 y2) (Or.inl ⟨rfl, by omega⟩) _, mS_up0 y3, y4⟩
  · rintro ⟨n1, x⟩ ⟨q0, q1, q2, q3⟩
    refine ⟨(n1, x), ?_, q0, q1, q2, q3⟩
    simp only [fM_chance_l28, fM_chance_l28_b]
    simp (disch := omega) only [Bool.false_eq_true, jz_lit, jz_neg, jz_nat, jz_add, jz_sub, jz_mul, jz_lt, jz_le, jz_eq, jz_ix, jin_z, jz_div, jzw, jwz, jw_lit, jw_neg, jw_add, jw_sub, jw_mul, jw_lt, jw_le, jw_eq, jw_div, Int.toNat_natCast, if_pos, if_neg, if_true, if_false, Option.bind_some, Int.natCast_add, Int.natCast_mul, Int.cast_ofNat_Int, Int.reduceToNat, Int.reduceAdd, Int.reduceMul, Int.reduceSub, Int.reduceNeg, Nat.reduceAdd, Nat.reduceMul]
end ED
theorem call_27 : jcal_27 jInv := by
  intro p d q h a0 V
  have V0 := V
  obtain ⟨hpd, hq, v1, v2, v3, v4, v5, v6, g, D, S, L, u1, u2, u3⟩ := V
  have u1' := u1
  obtain ⟨b, c, m, w1, w2, w3, w4⟩ := u1'
  obtain ⟨bs, cs, ms⟩ := u2
  obtain ⟨cn, w, K, hc, hw, ac, am, ak⟩ := jPast_to u3
  have hpd2 := hpd
  unfold iPD at hpd2
  have hb_n := jz_bd a0
  generalize ha_n : a0.toInt = n at hb_n
  obtain rfl : a0 = jz n := by rw [← ha_n]; exact jz_self a0
  clear ha_n
  by_cases ok : D 0 10 = 1 ∧ 1 ≤ n ∧ n ≤ 99 ∧ S 0 1 + n ≤ 999
  · obtain ⟨n, rfl⟩ : ∃ k : Nat, n = k := ⟨n.toNat, by omega⟩
    obtain ⟨s', s1, s2, s3, s4⟩ := v5
    obtain ⟨s, rfl⟩ : ∃ s : Nat, s' = s := ⟨s'.toNat, by omega⟩
    obtain ⟨q', h1, k1, hq', f1, r1, cs2⟩ := eKeep2 hq hc hw ac cs
    have c2 : cV p g D h1 := cV_fr (fun o k hk => f1.1 _ _ (by unfold ePC; omega)) c
    obtain ⟨h2, k2, f2, r2, z2⟩ := sA_chance (s := s) (n := n) hpd q' b c2 bs cs2 ok.1 (by omega) ok.2.2.2 (by omega) (by rw [f1.1 _ _ (by unfold ePC; omega)]; exact s3)
    have am2 : mPast cn w K h2 := mPast_fr (fun o k hk => by unfold ePM at hk; rw [f2.1 _ _ (by omega), f1.1 _ _ (by unfold ePC; omega)]) am
    have ms2 : mS S h2 := mS_fr (fun k => by rw [f2.1 _ _ (by omega), f1.1 _ _ (by unfold ePC; omega)]) ms
    have m2 : mV g D h2 := mV_fr (fun o k hk => by rw [f2.1 _ _ (by omega), f1.1 _ _ (by unfold ePC; omega)]) m
    obtain ⟨h3, k3, f3, r3⟩ := sM_keeps hc hw am2 ms2
    have ms3 : mS S h3 := mS_fr (fun k => f3.1 _ _ (by unfold ePM; omega)) ms2
    have m3 : mV g D h3 := mV_fr (fun o k hk => f3.1 _ _ (by unfold ePM; omega)) m2
    have s5 : h3.2 110 58 = jw s := by rw [f3.2 _ _ (by unfold ePM; omega), f2.2 _ _ (by omega), f1.2 _ _ (by unfold ePC; omega)]; exact s4
    obtain ⟨h4, k4, f4, r4, z4⟩ := sM_chance b m3 bs ms3 ok.1 (by omega) ok.2.2.2 (by omega) s5
    obtain ⟨t1, t2, t3, t4⟩ := eCh_b (D := D) bs (show s < 2147483648 by omega) n ok.2.2.2
    refine ⟨(jz ((eCh D S s g n).2.2 : Int), q', h2), ?_, (jz ((eCh D S s g n).2.2 : Int), h4), ?_, rfl, ?_⟩
    · unfold fA_chance
      rw [sA_canPass b c bs cs hb_n.1 hb_n.2]
      simp (disch := omega) only [Bool.false_eq_true, jz_lit, jz_neg, jz_nat, jz_add, jz_sub, jz_mul, jz_lt, jz_le, jz_eq, jz_ix, jin_z, jz_div, jzw, jwz, jw_lit, jw_neg, jw_add, jw_sub, jw_mul, jw_lt, jw_le, jw_eq, jw_div, Int.toNat_natCast, if_pos, if_neg, if_true, if_false, Option.bind_some, Int.natCast_add, Int.natCast_mul, Int.cast_ofNat_Int, Int.reduceToNat, Int.reduceAdd, Int.reduceMul, Int.reduceSub, Int.reduceNeg, Nat.reduceAdd, Nat.reduceMul, k1, k2]
    · unfold fM_chance
      rw [sM_canGo b m2 bs ms2 hb_n.1 hb_n.2]
      simp (disch := omega) only [Bool.false_eq_true, jz_lit, jz_neg, jz_nat, jz_add, jz_sub, jz_mul, jz_lt, jz_le, jz_eq, jz_ix, jin_z, jz_div, jzw, jwz, jw_lit, jw_neg, jw_add, jw_sub, jw_mul, jw_lt, jw_le, jw_eq, jw_div, Int.toNat_natCast, if_pos, if_neg, if_true, if_false, Option.bind_some, Int.natCast_add, Int.natCast_mul, Int.cast_ofNat_Int, Int.reduceToNat, Int.reduceAdd, Int.reduceMul, Int.reduceSub, Int.reduceNeg, Nat.reduceAdd, Nat.reduceMul, k3, k4]
    · refine eAct (q' := q') (S' := (eCh D S s g n).1) hpd hq' v1 v2 v3 v4 v6 u1 (fun o k n => ?_) (fun k => ?_) ⟨((eCh D S s g n).2.1 : Int), by omega, by omega, ?_, z4⟩ ⟨t1, cS_fr (fun o k hk => ?_) r2, r4⟩ (jPast_of (c := if cn < 20 then cn + 1 else 20) (w := (w + 1) % 20) (K := eKs S K) (by split <;> omega) (by omega) (cPast_fr hq' (by split <;> omega) (fun o k hk => ?_) r1) (mPast_fr (fun o k hk => ?_) r3) (fun i hi => eKs_b bs ak i hi hc))
      · unfold eActC ePC ePM at n
        rw [f4.1 _ _ (by omega), f3.1 _ _ (by unfold ePM; omega), f2.1 _ _ (by omega), f1.1 _ _ (by unfold ePC; omega)]
      · rw [f4.2 _ _ (by omega), f3.2 _ _ (by unfold ePM; omega), f2.2 _ _ (by omega), f1.2 _ _ (by unfold ePC; omega)]
      · rw [f4.1 _ _ (by omega), f3.1 _ _ (by unfold ePM; omega)]; exact z2
      · rw [f4.1 _ _ (by omega), f3.1 _ _ (by unfold ePM; omega)]
      · unfold ePC at hk
        rw [f4.1 _ _ (by omega), f3.1 _ _ (by unfold ePM; omega), f2.1 _ _ (by omega)]
      · unfold ePM at hk
        rw [f4.1 _ _ (by omega)]
  · refine ⟨(jz (-1), q, jhI h 97 3 (h.1 97 3 + 1)), ?_, (jz (-1), jhI (jhI h 97 3 (h.1 97 3 + 1)) 112 3 (h.1 112 3 + 1)), ?_, rfl, eInv_ref V0 (by omega)⟩
    · have r : fA_refuse (jz 3) h = some (jhI h 97 3 (h.1 97 3 + 1)) := sA_refuse (k := 3) (by omega) h
      generalize jhI h 97 3 (h.1 97 3 + 1) = y at *
      unfold fA_chance
      rw [sA_canPass b c bs cs hb_n.1 hb_n.2]
      simp (disch := omega) only [Bool.false_eq_true, jz_lit, jz_neg, jz_nat, jz_add, jz_sub, jz_mul, jz_lt, jz_le, jz_eq, jz_ix, jin_z, jz_div, jzw, jwz, jw_lit, jw_neg, jw_add, jw_sub, jw_mul, jw_lt, jw_le, jw_eq, jw_div, Int.toNat_natCast, if_pos, if_neg, if_true, if_false, Option.bind_some, Int.natCast_add, Int.natCast_mul, Int.cast_ofNat_Int, Int.reduceToNat, Int.reduceAdd, Int.reduceMul, Int.reduceSub, Int.reduceNeg, Nat.reduceAdd, Nat.reduceMul, r]
    · have hF : eFr (fun o k => o = 97) h (jhI h 97 3 (h.1 97 3 + 1)) := eFr_I (S := fun o k => o = 97) (eFr_refl _ h) rfl _
      have m1 : mV g D (jhI h 97 3 (h.1 97 3 + 1)) := mV_fr (fun o k hk => hF.1 o k (by omega)) m
      have ms1 : mS S (jhI h 97 3 (h.1 97 3 + 1)) := mS_fr (fun k => hF.1 _ k (by omega)) ms
      have hy : (jhI h 97 3 (h.1 97 3 + 1)).1 112 3 = h.1 112 3 := rfl
      show fM_chance (jz n) (jhI h 97 3 (h.1 97 3 + 1)) = some (jz (-1), jhI (jhI h 97 3 (h.1 97 3 + 1)) 112 3 (h.1 112 3 + 1))
      generalize jhI h 97 3 (h.1 97 3 + 1) = y at *
      unfold fM_chance
      rw [sM_canGo b m1 bs ms1 hb_n.1 hb_n.2]
      simp (disch := omega) only [Bool.false_eq_true, jz_lit, jz_neg, jz_nat, jz_add, jz_sub, jz_mul, jz_lt, jz_le, jz_eq, jz_ix, jin_z, jz_div, jzw, jwz, jw_lit, jw_neg, jw_add, jw_sub, jw_mul, jw_lt, jw_le, jw_eq, jw_div, Int.toNat_natCast, if_pos, if_neg, if_true, if_false, Option.bind_some, Int.natCast_add, Int.natCast_mul, Int.cast_ofNat_Int, Int.reduceToNat, Int.reduceAdd, Int.reduceMul, Int.reduceSub, Int.reduceNeg, Nat.reduceAdd, Nat.reduceMul, hy]
