/-! answers: the reference, the call -/
def eRw (f : Nat → Nat) (h x : jH) : Prop := x.1 = h.1 ∧ (∀ o k, ¬ o = 151 → x.2 o k = h.2 o k) ∧ ∀ j, j ≤ 8 → x.2 151 j = jw (f j)
section EA3
variable {p g w n s : Nat} {D S : jD} {h : jH}
theorem sM_l40 {a1 a2 : Int32} {a3 : Int64} : ∃ x, jlim (fM_answers_l40 a1 a2 a3) (jz 1, jhL h 151 0 (jw 1)) = some x ∧ eRw (eBn s 0) h x := by
  have b0 : eBn s 0 0 = 1 := rfl
  have bn : ∀ j, 0 < j → eBn s 0 j = 0 := fun j hj => by rw [eBn, if_neg (by omega)]
  have hl := jlim_cnt (step := fM_answers_l40 a1 a2 a3) (fun k (x : jH) => (jz k, x)) (fun k x => x.1 = h.1 ∧ (∀ o j, ¬ o = 151 → x.2 o j = h.2 o j) ∧ ∀ j, j < k → x.2 151 j = jw (eBn s 0 j)) (fun x => eRw (eBn s 0) h x) 9 8 1 (by omega) (jhL h 151 0 (jw 1)) ⟨rfl, fun o j hj => by rw [jhL_2, if_neg (by omega)], fun j hj => ?_⟩ ?_ ?_
  · exact hl
  · have : j = 0 := by omega
    subst this
    rw [jhL_2, if_pos ⟨rfl, rfl⟩, b0]
    rfl
  · rintro k x h1 h2 ⟨q1, q2, q3⟩
    refine ⟨jhL x 151 k (jw 0), ?_, q1, fun o j hj => by rw [jhL_2, if_neg (by omega)]; exact q2 o j hj, fun j hj => ?_⟩
    · show fM_answers_l40_b a1 a2 a3 (jz k) x = _
      unfold fM_answers_l40_b
      simp (disch := omega) only [Bool.false_eq_true, jz_lit, jz_neg, jz_nat, jz_add, jz_sub, jz_mul, jz_lt, jz_le, jz_eq, jz_ix, jin_z, jz_div, jzw, jwz, jw_lit, jw_neg, jw_add, jw_sub, jw_mul, jw_lt, jw_le, jw_eq, jw_div, Int.toNat_natCast, if_pos, if_neg, if_true, if_false, Option.bind_some, Int.natCast_add, Int.natCast_mul, Int.cast_ofNat_Int, Int.reduceToNat, Int.reduceAdd, Int.reduceMul, Int.reduceSub, Int.reduceNeg, Nat.reduceAdd, Nat.reduceMul]
    · by_cases c : j = k
      · subst c
        rw [jhL_2, if_pos ⟨rfl, rfl⟩, bn j (by omega)]
        rfl
      · rw [jhL_2, if_neg (by omega)]
        exact q3 j (by omega)
  · rintro x ⟨q1, q2, q3⟩
    refine ⟨x, ?_, q1, q2, fun j hj => q3 j (by omega)⟩
    show fM_answers_l40_b a1 a2 a3 (jz ((9 : Nat) : Int)) x = _
    unfold fM_answers_l40_b
    simp (disch := omega) only [Bool.false_eq_true, jz_lit, jz_neg, jz_nat, jz_add, jz_sub, jz_mul, jz_lt, jz_le, jz_eq, jz_ix, jin_z, jz_div, jzw, jwz, jw_lit, jw_neg, jw_add, jw_sub, jw_mul, jw_lt, jw_le, jw_eq, jw_div, Int.toNat_natCast, if_pos, if_neg, if_true, if_false, Option.bind_some, Int.natCast_add, Int.natCast_mul, Int.cast_ofNat_Int, Int.reduceToNat, Int.reduceAdd, Int.reduceMul, Int.reduceSub, Int.reduceNeg, Nat.reduceAdd, Nat.reduceMul]
theorem sM_l77 {a1 : Int32} {a3 : Int64} {a5 : Int32} {m : Nat} {x0 : jH} (hs : s ≤ 100) (R : eRw (eBn s m) h x0) : ∃ x, jlim (fM_answers_l77 a1 (jz s) a3 a5) (jz 8, x0) = some x ∧ eRw (eBn s (m + 1)) h x := by
  have hl := jlim_cnt (step := fM_answers_l77 a1 (jz s) a3 a5) (fun k (x : jH) => (jz (8 - (k : Int)), x)) (fun k x => x.1 = h.1 ∧ (∀ o j, ¬ o = 151 → x.2 o j = h.2 o j) ∧ (∀ j, j ≤ 8 → 8 < j + k → x.2 151 j = jw (eBn s (m + 1) j)) ∧ ∀ j, j + k ≤ 8 → x.2 151 j = jw (eBn s m j)) (fun x => eRw (eBn s (m + 1)) h x) 9 9 0 (by omega) x0 ⟨R.1, R.2.1, fun j h1 h2 => by omega, fun j hj => R.2.2 j (by omega)⟩ ?_ ?_
  · exact hl
  · rintro k x h1 h2 ⟨q1, q2, q3, q4⟩
    obtain ⟨v, hv⟩ : ∃ v : Nat, v = 8 - k := ⟨_, rfl⟩
    have vk : (8 : Int) - (k : Int) = (v : Int) := by omega
    have vk2 : (8 : Int) - ((k + 1 : Nat) : Int) = (v : Int) + -1 := by omega
    have r1 := q4 v (by omega)
    have es : eBn s (m + 1) v = eBn s m v * (100 - s) + if v = 0 then 0 else eBn s m (v - 1) * s := rfl
    refine ⟨jhL x 151 v (jw (eBn s (m + 1) v)), ?_, q1, fun o j hj => by rw [jhL_2, if_neg (by omega)]; exact q2 o j hj, fun j h3 h4 => ?_, fun j hj => ?_⟩
    · show fM_answers_l77_b a1 (jz s) a3 a5 (jz (8 - (k : Int))) x = some (.inl (jz (8 - ((k + 1 : Nat) : Int)), jhL x 151 v (jw (eBn s (m + 1) v))))
      rw [vk, vk2]
      unfold fM_answers_l77_b fM_answers_l77_j122
      rw [jss_151]
      by_cases c : v = 0
      · rw [if_pos c] at es
        have e1 : ((eBn s m v : Nat) : Int) * (100 - (s : Int)) + 0 = ((eBn s (m + 1) v : Nat) : Int) := by rw [es, Nat.add_zero, Int.add_zero, Int.natCast_mul, Int.natCast_sub hs]; rfl
        generalize eBn s m v = a at *
        generalize eBn s (m + 1) v = b at *
        simp (disch := omega) only [Bool.false_eq_true, jz_lit, jz_neg, jz_nat, jz_add, jz_sub, jz_mul, jz_lt, jz_le, jz_eq, jz_ix, jin_z, jz_div, jzw, jwz, jw_lit, jw_neg, jw_add, jw_sub, jw_mul, jw_lt, jw_le, jw_eq, jw_div, Int.toNat_natCast, if_pos, if_neg, if_true, if_false, Option.bind_some, Int.natCast_add, Int.natCast_mul, Int.cast_ofNat_Int, Int.reduceToNat, Int.reduceAdd, Int.reduceMul, Int.reduceSub, Int.reduceNeg, Nat.reduceAdd, Nat.reduceMul, r1, e1]
      · rw [if_neg c] at es
        have r2 := q4 (v - 1) (by omega)
        have i2 : ((v : Int) - 1).toNat = v - 1 := by omega
        have e1 : ((eBn s m v : Nat) : Int) * (100 - (s : Int)) + ((eBn s m (v - 1) : Nat) : Int) * (s : Int) = ((eBn s (m + 1) v : Nat) : Int) := by rw [es, Int.natCast_add, Int.natCast_mul, Int.natCast_mul, Int.natCast_sub hs]; rfl
        generalize eBn s m v = a at *
        generalize eBn s m (v - 1) = a2 at *
        generalize eBn s (m + 1) v = b at *
        simp (disch := omega) only [Bool.false_eq_true, jz_lit, jz_neg, jz_nat, jz_add, jz_sub, jz_mul, jz_lt, jz_le, jz_eq, jz_ix, jin_z, jz_div, jzw, jwz, jw_lit, jw_neg, jw_add, jw_sub, jw_mul, jw_lt, jw_le, jw_eq, jw_div, Int.toNat_natCast, if_pos, if_neg, if_true, if_false, Option.bind_some, Int.natCast_add, Int.natCast_mul, Int.cast_ofNat_Int, Int.reduceToNat, Int.reduceAdd, Int.reduceMul, Int.reduceSub, Int.reduceNeg, Nat.reduceAdd, Nat.reduceMul, r1, i2, r2, e1]
    · by_cases c : j = v
      · subst c
        rw [jhL_2, if_pos ⟨rfl, rfl⟩]
      · rw [jhL_2, if_neg (by omega)]
        exact q3 j h3 (by omega)
    · rw [jhL_2, if_neg (by omega)]
      exact q4 j (by omega)
  · rintro x ⟨q1, q2, q3, q4⟩
    refine ⟨x, ?_, q1, q2, fun j hj => q3 j hj (by omega)⟩
    show fM_answers_l77_b a1 (jz s) a3 a5 (jz (8 - ((9 : Nat) : Int))) x = _
    unfold fM_answers_l77_b
    rw [show (8 : Int) - ((9 : Nat) : Int) = -1 by omega]
    simp (disch := omega) only [Bool.false_eq_true, jz_lit, jz_neg, jz_nat, jz_add, jz_sub, jz_mul, jz_lt, jz_le, jz_eq, jz_ix, jin_z, jz_div, jzw, jwz, jw_lit, jw_neg, jw_add, jw_sub, jw_mul, jw_lt, jw_le, jw_eq, jw_div, Int.toNat_natCast, if_pos, if_neg, if_true, if_false, Option.bind_some, Int.natCast_add, Int.natCast_mul, Int.cast_ofNat_Int, Int.reduceToNat, Int.reduceAdd, Int.reduceMul, Int.reduceSub, Int.reduceNeg, Nat.reduceAdd, Nat.reduceMul]
theorem sM_l68 {a1 : Int32} {x0 : jH} (hw : w ≤ 8) (hs : s ≤ 100) (R : eRw (eBn s 0) h x0) : ∃ x, jlim (fM_answers_l68 a1 (jz s)) (jw 1, jz w, x0) = some (jw ((100 ^ w : Nat) : Int), x) ∧ eRw (eBn s w) h x := by
  have hl := jlim_cnt (step := fM_answers_l68 a1 (jz s)) (fun k (x : jH) => (jw ((100 ^ k : Nat) : Int), jz ((w : Int) - (k : Int)), x)) (fun k x => eRw (eBn s k) h x) (fun e => e.1 = jw ((100 ^ w : Nat) : Int) ∧ eRw (eBn s w) h e.2) w w 0 (by omega) x0 R ?_ ?_
  · obtain ⟨⟨e1, e2⟩, h1, rfl, h3⟩ := hl
    refine ⟨e2, ?_, h3⟩
    have st : (jw ((100 ^ 0 : Nat) : Int), jz ((w : Int) - ((0 : Nat) : Int)), x0) = (jw 1, jz w, x0) := by
      rw [show (w : Int) - ((0 : Nat) : Int) = (w : Int) by omega]
      rfl
    rw [← st]
    exact h1
  · intro k x h1 h2 q
    obtain ⟨y, e, r⟩ := sM_l77 (a1 := a1) (a3 := jw ((100 ^ k : Nat) : Int)) (a5 := jz ((w : Int) - (k : Int))) hs q
    refine ⟨y, ?_, r⟩
    show fM_answers_l68_b a1 (jz s) (jw ((100 ^ k : Nat) : Int)) (jz ((w : Int) - (k : Int))) x = some (.inl (jw ((100 ^ (k + 1) : Nat) : Int), jz ((w : Int) - ((k + 1 : Nat) : Int)), y))
    have e1 : ((100 ^ k : Nat) : Int) * 100 = ((100 ^ (k + 1) : Nat) : Int) := by rw [Nat.pow_succ]; omega
    have e2 : (w : Int) - (k : Int) + -1 = (w : Int) - ((k : Int) + 1) := by omega
    unfold fM_answers_l68_b
    generalize 100 ^ k = a at *
    generalize 100 ^ (k + 1) = b at *
    simp (disch := omega) only [Bool.false_eq_true, jz_lit, jz_neg, jz_nat, jz_add, jz_sub, jz_mul, jz_lt, jz_le, jz_eq, jz_ix, jin_z, jz_div, jzw, jwz, jw_lit, jw_neg, jw_add, jw_sub, jw_mul, jw_lt, jw_le, jw_eq, jw_div, Int.toNat_natCast, if_pos, if_neg, if_true, if_false, Option.bind_some, Int.natCast_add, Int.natCast_mul, Int.cast_ofNat_Int, Int.reduceToNat, Int.reduceAdd, Int.reduceMul, Int.reduceSub, Int.reduceNeg, Nat.reduceAdd, Nat.reduceMul, e, e1, e2]
  · intro x q
    refine ⟨(jw ((100 ^ w : Nat) : Int), x), ?_, rfl, q⟩
    show fM_answers_l68_b a1 (jz s) (jw ((100 ^ w : Nat) : Int)) (jz ((w : Int) - (w : Int))) x = _
    unfold fM_answers_l68_b
    rw [Int.sub_self]
    simp (disch := omega) only [Bool.false_eq_true, jz_lit, jz_neg, jz_nat, jz_add, jz_sub, jz_mul, jz_lt, jz_le, jz_eq, jz_ix, jin_z, jz_div, jzw, jwz, jw_lit, jw_neg, jw_add, jw_sub, jw_mul, jw_lt, jw_le, jw_eq, jw_div, Int.toNat_natCast, if_pos, if_neg, if_true, if_false, Option.bind_some, Int.natCast_add, Int.natCast_mul, Int.cast_ofNat_Int, Int.reduceToNat, Int.reduceAdd, Int.reduceMul, Int.reduceSub, Int.reduceNeg, Nat.reduceAdd, Nat.reduceMul]
theorem sM_l156 {P A : Nat} (hA : 0 < A) (hA2 : A ≤ 10000000000000000) (hP : P ≤ A) : jlim (fM_answers_l156 (jw A) h) (jw P, jz 0, jz 0) = some (jz ((P * 1000000 / A : Nat) : Int)) := by
  rw [← eDg_six hA hP]
  refine jlim_go (fun j => (jw ((eDg P A j).2 : Nat), jz ((eDg P A j).1 : Nat), jz j)) 6 rfl (fun i hi => ?_) ?_
  · obtain ⟨d1, d2, d3⟩ := eDg_spec hA hP i
    show fM_answers_l156_b (jw A) (jw ((eDg P A i).2 : Nat)) (jz ((eDg P A i).1 : Nat)) (jz i) h = some (.inl (jw (((eDg P A i).2 * 10 % A : Nat) : Int), jz ((10 * (eDg P A i).1 + (eDg P A i).2 * 10 / A : Nat) : Int), jz ((i + 1 : Nat) : Int)))
    generalize (eDg P A i).2 = l at *
    generalize (eDg P A i).1 = v at *
    have td : ((l : Int) * 10).tdiv (A : Int) = ((l * 10 / A : Nat) : Int) := by
      rw [tdiv_nn (by omega), Int.natCast_ediv, Int.natCast_mul]
      rfl
    have e1 : (l : Int) * 10 - ((l * 10 / A : Nat) : Int) * (A : Int) = ((l * 10 % A : Nat) : Int) := by
      have d := Nat.div_add_mod (l * 10) A
      have : ((l * 10 / A : Nat) : Int) * (A : Int) = ((A * (l * 10 / A) : Nat) : Int) := by rw [Int.natCast_mul, Int.mul_comm]
      rw [this]
      omega
    unfold fM_answers_l156_b
    generalize l * 10 / A = qd at *
    generalize l * 10 % A = rm at *
    simp (disch := omega) only [Bool.false_eq_true, jz_lit, jz_neg, jz_nat, jz_add, jz_sub, jz_mul, jz_lt, jz_le, jz_eq, jz_ix, jin_z, jz_div, jzw, jwz, jw_lit, jw_neg, jw_add, jw_sub, jw_mul, jw_lt, jw_le, jw_eq, jw_div, Int.toNat_natCast, if_pos, if_neg, if_true, if_false, Option.bind_some, Int.natCast_add, Int.natCast_mul, Int.cast_ofNat_Int, Int.reduceToNat, Int.reduceAdd, Int.reduceMul, Int.reduceSub, Int.reduceNeg, Nat.reduceAdd, Nat.reduceMul, td, e1]
  · show fM_answers_l156_b (jw A) (jw ((eDg P A 6).2 : Nat)) (jz ((eDg P A 6).1 : Nat)) (jz ((6 : Nat) : Int)) h = _
    unfold fM_answers_l156_b
    generalize (eDg P A 6).2 = l at *
    generalize (eDg P A 6).1 = v at *
    simp (disch := omega) only [Bool.false_eq_true, jz_lit, jz_neg, jz_nat, jz_add, jz_sub, jz_mul, jz_lt, jz_le, jz_eq, jz_ix, jin_z, jz_div, jzw, jwz, jw_lit, jw_neg, jw_add, jw_sub, jw_mul, jw_lt, jw_le, jw_eq, jw_div, Int.toNat_natCast, if_pos, if_neg, if_true, if_false, Option.bind_some, Int.natCast_add, Int.natCast_mul, Int.cast_ofNat_Int, Int.reduceToNat, Int.reduceAdd, Int.reduceMul, Int.reduceSub, Int.reduceNeg, Nat.reduceAdd, Nat.reduceMul]
end EA3
