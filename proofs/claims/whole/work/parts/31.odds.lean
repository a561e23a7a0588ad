/-! Calls: odds, above, order, plates, mean, full -/
theorem tdiv_nn {a b : Int} (h : 0 ≤ a) : a.tdiv b = a / b := Int.tdiv_eq_ediv_of_nonneg h
section EO
variable {p d g : Nat} {D S : jD} {h : jH}
theorem eT_none : eT D S (-1) 0 = eTens D S := by
  funext k
  unfold eT
  rw [if_neg (by omega)]
theorem sPy_crowdNow (hpd : iPD p d) (b : bV g D) (c : cV p g D h) (bs : bS g S) (cs : cS 11 S h) : ∃ h', fPy_crowdNow p h = some (80, h') ∧ eFr eQC h h' ∧ eRow (eTens D S) D g h' := by
  obtain ⟨h', e1, f1, r⟩ := sPy_crowdWhen (kn := -1) (t := 0) hpd b c bs cs (by omega) (by omega)
  rw [eT_none] at r
  refine ⟨h', ?_, eFr_mono f1 (fun o k hk => by unfold eQC; omega), r⟩
  unfold fPy_crowdNow
  rw [show (-1 : Int32) = jz (-1) from rfl, show (0 : Int32) = jz 0 from rfl, e1]
  rfl
theorem eLays (b : bV g D) (m : mV g D h) (bs : bS g S) (ms : mS S h) : ∃ h', fM_laysHeads h = some h' ∧ eFr eQM h h' ∧ (∀ n : Nat, n ≤ 32 → h'.2 150 n = jw (eHd (eTens D S) (D 5) g n)) ∧ h'.2 110 53 = jw ((10 : Int) ^ g) := by
  obtain ⟨h', e1, f1, r⟩ := sM_lays b m bs ms
  exact ⟨h', e1, eFr_mono f1 (fun o k hk => by unfold eQM; omega), r⟩
theorem p10_b (hg : g ≤ 8) : 1 ≤ (10 : Int) ^ g ∧ (10 : Int) ^ g ≤ 100000000 := by
  have p0 : (0 : Int) < (10 : Int) ^ g := Int.pow_pos (by omega)
  have h1 : (10 : Nat) ^ g ≤ 10 ^ 8 := Nat.pow_le_pow_right (by omega) hg
  have h2 : ((10 ^ g : Nat) : Int) ≤ ((10 ^ 8 : Nat) : Int) := Int.ofNat_le.mpr h1
  have h3 : (10 : Int) ^ g ≤ 100000000 := by simpa using h2
  omega
end EO
theorem call_8 : jcal_8 jInv := by
  intro p d q h a0 V
  have V0 := V
  obtain ⟨hpd, hq, v1, v2, v3, v4, v5, v6, g, D, S, L, ⟨b, c, m, w1, w2, w3, w4⟩, ⟨bs, cs, ms⟩, -⟩ := V
  have hb_a := jz_bd a0
  generalize ha_a : a0.toInt = a at hb_a
  obtain rfl : a0 = jz a := by rw [← ha_a]; exact jz_self a0
  clear ha_a
  have ct := c.2.2.1.1
  have mt := m.2.2.1.1
  rcases eTold b with ht | ht
  · refine ⟨(jz (-1), h), ?_, (jz (-1), h), ?_, rfl, V0⟩
    · unfold fA_odds; rw [ct, ht]; simp (disch := omega) only [Bool.false_eq_true, jz_lit, jz_neg, jz_nat, jz_add, jz_sub, jz_mul, jz_lt, jz_le, jz_eq, jz_ix, jin_z, jz_div, jzw, jwz, jw_lit, jw_neg, jw_add, jw_sub, jw_mul, jw_lt, jw_le, jw_eq, jw_div, Int.toNat_natCast, if_pos, if_neg, if_true, if_false, Option.bind_some, Int.natCast_add, Int.natCast_mul, Int.cast_ofNat_Int, Int.reduceToNat, Int.reduceAdd, Int.reduceMul, Int.reduceSub, Int.reduceNeg, Nat.reduceAdd, Nat.reduceMul]
    · unfold fM_odds; rw [mt, ht]; simp (disch := omega) only [Bool.false_eq_true, jz_lit, jz_neg, jz_nat, jz_add, jz_sub, jz_mul, jz_lt, jz_le, jz_eq, jz_ix, jin_z, jz_div, jzw, jwz, jw_lit, jw_neg, jw_add, jw_sub, jw_mul, jw_lt, jw_le, jw_eq, jw_div, Int.toNat_natCast, if_pos, if_neg, if_true, if_false, Option.bind_some, Int.natCast_add, Int.natCast_mul, Int.cast_ofNat_Int, Int.reduceToNat, Int.reduceAdd, Int.reduceMul, Int.reduceSub, Int.reduceNeg, Nat.reduceAdd, Nat.reduceMul]
  by_cases ga : 0 ≤ a ∧ a ≤ 32
  · obtain ⟨n, rfl⟩ : ∃ n : Nat, a = n := ⟨a.toNat, by omega⟩
    obtain ⟨h1, e1, f1, M, hM, r1, r2, r3⟩ := sPy_crowdNow hpd b c bs cs
    obtain ⟨h2, e2, f2, z1, z2⟩ := eLays b (eQC_m f1 m) bs (eQC_ms f1 ms)
    have hb := eHdG_b (T := eTens D S) (s := D 5) (n := (n : Int)) b.1 (fun i hi => eTens_b b hi)
    have hb2 := eHd_b (t := eTens D S) (s := D 5) (k := g) (n := (n : Int)) (fun i hi => eTens_b b hi)
    have hp := p10_b b.1
    have mt1 := (eQC_m f1 m).2.2.1.1
    have z1n := z1 n (by omega)
    have r2n := r2 n (by omega)
    have es : eHd (eTens D S) (D 5) g n * ePw g / 100 = eHd (eTens D S) (D 5) g n * 1000000 / (10 : Int) ^ g := eScale b.1 (by omega) (by omega) rfl
    refine ⟨(jz (eHd (eTens D S) (D 5) g n * ePw g / 100), h1), ?_, (jz (eHd (eTens D S) (D 5) g n * 1000000 / (10 : Int) ^ g), h2), ?_, by rw [es], jInv_q V0 f1 f2⟩
    · unfold fA_odds fCr_justMillionths; rw [ct, ht]
      simp (disch := omega) only [Bool.false_eq_true, jz_lit, jz_neg, jz_nat, jz_add, jz_sub, jz_mul, jz_lt, jz_le, jz_eq, jz_ix, jin_z, jz_div, jzw, jwz, jw_lit, jw_neg, jw_add, jw_sub, jw_mul, jw_lt, jw_le, jw_eq, jw_div, Int.toNat_natCast, if_pos, if_neg, if_true, if_false, Option.bind_some, Int.natCast_add, Int.natCast_mul, Int.cast_ofNat_Int, Int.reduceToNat, Int.reduceAdd, Int.reduceMul, Int.reduceSub, Int.reduceNeg, Nat.reduceAdd, Nat.reduceMul, e1, r2n]
      rw [tdiv_nn hb.1]
    · unfold fM_odds; rw [mt1, ht]
      simp (disch := omega) only [Bool.false_eq_true, jz_lit, jz_neg, jz_nat, jz_add, jz_sub, jz_mul, jz_lt, jz_le, jz_eq, jz_ix, jin_z, jz_div, jzw, jwz, jw_lit, jw_neg, jw_add, jw_sub, jw_mul, jw_lt, jw_le, jw_eq, jw_div, Int.toNat_natCast, if_pos, if_neg, if_true, if_false, Option.bind_some, Int.natCast_add, Int.natCast_mul, Int.cast_ofNat_Int, Int.reduceToNat, Int.reduceAdd, Int.reduceMul, Int.reduceSub, Int.reduceNeg, Nat.reduceAdd, Nat.reduceMul, sM_isIn, e2, z1n, z2]
      rw [tdiv_nn (by omega)]
  · refine ⟨(jz (-1), h), ?_, (jz (-1), h), ?_, rfl, V0⟩
    · unfold fA_odds; rw [ct, ht]
      by_cases e : a < 0
      · simp (disch := omega) only [Bool.false_eq_true, jz_lit, jz_neg, jz_nat, jz_add, jz_sub, jz_mul, jz_lt, jz_le, jz_eq, jz_ix, jin_z, jz_div, jzw, jwz, jw_lit, jw_neg, jw_add, jw_sub, jw_mul, jw_lt, jw_le, jw_eq, jw_div, Int.toNat_natCast, if_pos, if_neg, if_true, if_false, Option.bind_some, Int.natCast_add, Int.natCast_mul, Int.cast_ofNat_Int, Int.reduceToNat, Int.reduceAdd, Int.reduceMul, Int.reduceSub, Int.reduceNeg, Nat.reduceAdd, Nat.reduceMul]
      · simp (disch := omega) only [Bool.false_eq_true, jz_lit, jz_neg, jz_nat, jz_add, jz_sub, jz_mul, jz_lt, jz_le, jz_eq, jz_ix, jin_z, jz_div, jzw, jwz, jw_lit, jw_neg, jw_add, jw_sub, jw_mul, jw_lt, jw_le, jw_eq, jw_div, Int.toNat_natCast, if_pos, if_neg, if_true, if_false, Option.bind_some, Int.natCast_add, Int.natCast_mul, Int.cast_ofNat_Int, Int.reduceToNat, Int.reduceAdd, Int.reduceMul, Int.reduceSub, Int.reduceNeg, Nat.reduceAdd, Nat.reduceMul]
    · unfold fM_odds; rw [mt, ht]; simp (disch := omega) only [Bool.false_eq_true, jz_lit, jz_neg, jz_nat, jz_add, jz_sub, jz_mul, jz_lt, jz_le, jz_eq, jz_ix, jin_z, jz_div, jzw, jwz, jw_lit, jw_neg, jw_add, jw_sub, jw_mul, jw_lt, jw_le, jw_eq, jw_div, Int.toNat_natCast, if_pos, if_neg, if_true, if_false, Option.bind_some, Int.natCast_add, Int.natCast_mul, Int.cast_ofNat_Int, Int.reduceToNat, Int.reduceAdd, Int.reduceMul, Int.reduceSub, Int.reduceNeg, Nat.reduceAdd, Nat.reduceMul, sM_isIn]
/-- more than n -/
def eAb (T s : Nat → Int) (g : Nat) (n : Int) : Int := eSum (fun k => if n < (k : Int) then eHd T s g k else 0) 33
section EO2
variable {p d g : Nat} {D S : jD} {h : jH} {T : Nat → Int}
theorem eAb_b {n : Int} {s : Nat → Int} (hT : ∀ i, i < g → 0 ≤ T i ∧ T i ≤ 10) : 0 ≤ eAb T s g n ∧ eAb T s g n ≤ 33 * (10 : Int) ^ g := by
  have := eSum_b (f := fun k => if n < (k : Int) then eHd T s g k else 0) (m := (10 : Int) ^ g) (n := 33) (fun k hk => by
    have h1 := eHd_b (s := s) hT (n := (k : Int))
    have h0 : (0 : Int) < (10 : Int) ^ g := Int.pow_pos (by omega)
    show 0 ≤ (if n < (k : Int) then _ else _) ∧ (if n < (k : Int) then _ else _) ≤ _
    split <;> omega)
  unfold eAb
  omega
theorem sCr_more {n : Int} (r : eRow T D g h) (hn : 0 ≤ n ∧ n ≤ 32) : jlim (fCr_moreMillionths_l5 (jz n) h) (0, 0) = some (jw (eAb T (D 5) g n * ePw g)) := by
  obtain ⟨M, hM, r1, r2, r3⟩ := r
  have e33 : eAb T (D 5) g n * ePw g = eSum (fun k => if n < (k : Int) then eHd T (D 5) g k * ePw g else 0) 33 := by
    unfold eAb
    rw [← eSum_mul]
    refine eSum_congr (fun k _ => ?_)
    split
    · rfl
    · simp
  rw [e33]
  refine jlim_go (fun i => (jw (eSum (fun k => if n < (k : Int) then eHd T (D 5) g k * ePw g else 0) i), jz i)) 33 rfl (fun i hi => ?_) ?_
  · have r2i := r2 i (by omega)
    simp only [fCr_moreMillionths_l5, fCr_moreMillionths_l5_b, fCr_moreMillionths_l5_j28, eSum]
    by_cases c : n < (i : Int)
    · simp (disch := omega) only [Bool.false_eq_true, jz_lit, jz_neg, jz_nat, jz_add, jz_sub, jz_mul, jz_lt, jz_le, jz_eq, jz_ix, jin_z, jz_div, jzw, jwz, jw_lit, jw_neg, jw_add, jw_sub, jw_mul, jw_lt, jw_le, jw_eq, jw_div, Int.toNat_natCast, if_pos, if_neg, if_true, if_false, Option.bind_some, Int.natCast_add, Int.natCast_mul, Int.cast_ofNat_Int, Int.reduceToNat, Int.reduceAdd, Int.reduceMul, Int.reduceSub, Int.reduceNeg, Nat.reduceAdd, Nat.reduceMul, r2i]
    · simp (disch := omega) only [Bool.false_eq_true, jz_lit, jz_neg, jz_nat, jz_add, jz_sub, jz_mul, jz_lt, jz_le, jz_eq, jz_ix, jin_z, jz_div, jzw, jwz, jw_lit, jw_neg, jw_add, jw_sub, jw_mul, jw_lt, jw_le, jw_eq, jw_div, Int.toNat_natCast, if_pos, if_neg, if_true, if_false, Option.bind_some, Int.natCast_add, Int.natCast_mul, Int.cast_ofNat_Int, Int.reduceToNat, Int.reduceAdd, Int.reduceMul, Int.reduceSub, Int.reduceNeg, Nat.reduceAdd, Nat.reduceMul, Int.add_zero]
  · simp only [fCr_moreMillionths_l5, fCr_moreMillionths_l5_b]
    simp (disch := omega) only [Bool.false_eq_true, jz_lit, jz_neg, jz_nat, jz_add, jz_sub, jz_mul, jz_lt, jz_le, jz_eq, jz_ix, jin_z, jz_div, jzw, jwz, jw_lit, jw_neg, jw_add, jw_sub, jw_mul, jw_lt, jw_le, jw_eq, jw_div, Int.toNat_natCast, if_pos, if_neg, if_true, if_false, Option.bind_some, Int.natCast_add, Int.natCast_mul, Int.cast_ofNat_Int, Int.reduceToNat, Int.reduceAdd, Int.reduceMul, Int.reduceSub, Int.reduceNeg, Nat.reduceAdd, Nat.reduceMul]
theorem sM_more {n : Nat} (hn : n ≤ 32) (r2 : ∀ n : Nat, n ≤ 32 → h.2 150 n = jw (eHd T (D 5) g n)) : jlim (fM_above_l32 h) (jw 0, jz ((n : Int) + 1)) = some (jw (eAb T (D 5) g n)) := by
  have hstep : ∀ i : Nat, n < i → i ≤ 32 → fM_above_l32 h (jw (eSum (fun k => if (n : Int) < (k : Int) then eHd T (D 5) g k else 0) i), jz i) = some (.inl (jw (eSum (fun k => if (n : Int) < (k : Int) then eHd T (D 5) g k else 0) (i + 1)), jz ((i + 1 : Nat) : Int))) := by
    intro i h1 h2
    have r2i := r2 i h2
    simp only [fM_above_l32, fM_above_l32_b, eSum]
    simp (disch := omega) only [Bool.false_eq_true, jz_lit, jz_neg, jz_nat, jz_add, jz_sub, jz_mul, jz_lt, jz_le, jz_eq, jz_ix, jin_z, jz_div, jzw, jwz, jw_lit, jw_neg, jw_add, jw_sub, jw_mul, jw_lt, jw_le, jw_eq, jw_div, Int.toNat_natCast, if_pos, if_neg, if_true, if_false, Option.bind_some, Int.natCast_add, Int.natCast_mul, Int.cast_ofNat_Int, Int.reduceToNat, Int.reduceAdd, Int.reduceMul, Int.reduceSub, Int.reduceNeg, Nat.reduceAdd, Nat.reduceMul, r2i]
  have e0 : ((jw 0 : Int64), jz ((n : Int) + 1)) = (jw (eSum (fun k => if (n : Int) < (k : Int) then eHd T (D 5) g k else 0) (n + 1)), jz ((n + 1 : Nat) : Int)) := by
    rw [eSum_z (fun k hk => by show (if (n : Int) < (k : Int) then _ else _) = _; rw [if_neg (by omega)])]
    rfl
  rw [e0]
  have := jlim_run (step := fM_above_l32 h) (fun i => (jw (eSum (fun k => if (n : Int) < (k : Int) then eHd T (D 5) g k else 0) i), jz i)) (e := jw (eAb T (D 5) g n)) (32 - n) (n + 1) (fun i h1 h2 => hstep i (by omega) (by omega)) (by
    rw [show n + 1 + (32 - n) = 33 by omega]
    simp only [fM_above_l32, fM_above_l32_b]
    simp (disch := omega) only [Bool.false_eq_true, jz_lit, jz_neg, jz_nat, jz_add, jz_sub, jz_mul, jz_lt, jz_le, jz_eq, jz_ix, jin_z, jz_div, jzw, jwz, jw_lit, jw_neg, jw_add, jw_sub, jw_mul, jw_lt, jw_le, jw_eq, jw_div, Int.toNat_natCast, if_pos, if_neg, if_true, if_false, Option.bind_some, Int.natCast_add, Int.natCast_mul, Int.cast_ofNat_Int, Int.reduceToNat, Int.reduceAdd, Int.reduceMul, Int.reduceSub, Int.reduceNeg, Nat.reduceAdd, Nat.reduceMul]
    rfl)
  exact this
end EO2
theorem call_9 : jcal_9 jInv := by
  intro p d q h a0 V
  have V0 := V
  obtain ⟨hpd, hq, v1, v2, v3, v4, v5, v6, g, D, S, L, ⟨b, c, m, w1, w2, w3, w4⟩, ⟨bs, cs, ms⟩, -⟩ := V
  have hb_a := jz_bd a0
  generalize ha_a : a0.toInt = a at hb_a
  obtain rfl : a0 = jz a := by rw [← ha_a]; exact jz_self a0
  clear ha_a
  have ct := c.2.2.1.1
  have mt := m.2.2.1.1
  rcases eTold b with ht | ht
  · refine ⟨(jz (-1), h), ?_, (jz (-1), h), ?_, rfl, V0⟩
    · unfold fA_above; rw [ct, ht]; simp (disch := omega) only [Bool.false_eq_true, jz_lit, jz_neg, jz_nat, jz_add, jz_sub, jz_mul, jz_lt, jz_le, jz_eq, jz_ix, jin_z, jz_div, jzw, jwz, jw_lit, jw_neg, jw_add, jw_sub, jw_mul, jw_lt, jw_le, jw_eq, jw_div, Int.toNat_natCast, if_pos, if_neg, if_true, if_false, Option.bind_some, Int.natCast_add, Int.natCast_mul, Int.cast_ofNat_Int, Int.reduceToNat, Int.reduceAdd, Int.reduceMul, Int.reduceSub, Int.reduceNeg, Nat.reduceAdd, Nat.reduceMul]
    · unfold fM_above; rw [mt, ht]; simp (disch := omega) only [Bool.false_eq_true, jz_lit, jz_neg, jz_nat, jz_add, jz_sub, jz_mul, jz_lt, jz_le, jz_eq, jz_ix, jin_z, jz_div, jzw, jwz, jw_lit, jw_neg, jw_add, jw_sub, jw_mul, jw_lt, jw_le, jw_eq, jw_div, Int.toNat_natCast, if_pos, if_neg, if_true, if_false, Option.bind_some, Int.natCast_add, Int.natCast_mul, Int.cast_ofNat_Int, Int.reduceToNat, Int.reduceAdd, Int.reduceMul, Int.reduceSub, Int.reduceNeg, Nat.reduceAdd, Nat.reduceMul]
  by_cases ga : 0 ≤ a ∧ a ≤ 32
  · obtain ⟨n, rfl⟩ : ∃ n : Nat, a = n := ⟨a.toNat, by omega⟩
    obtain ⟨h1, e1, f1, r⟩ := sPy_crowdNow hpd b c bs cs
    obtain ⟨h2, e2, f2, z1, z2⟩ := eLays b (eQC_m f1 m) bs (eQC_ms f1 ms)
    have hb := eAb_b (T := eTens D S) (s := D 5) (g := g) (n := (n : Int)) (fun i hi => eTens_b b hi)
    have hp := p10_b b.1
    have hpw := ePw_b g
    have hpa := ePw_all b.1
    have mt1 := (eQC_m f1 m).2.2.1.1
    have l1 := sCr_more (n := (n : Int)) r (by omega)
    have l2 := sM_more (n := n) (by omega) z1
    have hb3 : 0 ≤ eAb (eTens D S) (D 5) g n * ePw g := Int.mul_nonneg hb.1 (by omega)
    have hb4 : eAb (eTens D S) (D 5) g n * ePw g ≤ 33 * (10 : Int) ^ g * ePw g := Int.mul_le_mul_of_nonneg_right hb.2 (by omega)
    have hb5 : 33 * (10 : Int) ^ g * ePw g = 3300000000 := by rw [Int.mul_assoc, Int.mul_comm ((10 : Int) ^ g), hpa]; rfl
    have es : eAb (eTens D S) (D 5) g n * ePw g / 100 = eAb (eTens D S) (D 5) g n * 1000000 / (10 : Int) ^ g := eScale b.1 (by omega) (by omega) rfl
    rw [show ((0 : Int64), (0 : Int32)) = (jw 0, jz 0) from rfl] at l1
    refine ⟨(jz (eAb (eTens D S) (D 5) g n * ePw g / 100), h1), ?_, (jz (eAb (eTens D S) (D 5) g n * 1000000 / (10 : Int) ^ g), h2), ?_, by rw [es], jInv_q V0 f1 f2⟩
    · unfold fA_above fCr_moreMillionths; rw [ct, ht]
      simp (disch := omega) only [Bool.false_eq_true, jz_lit, jz_neg, jz_nat, jz_add, jz_sub, jz_mul, jz_lt, jz_le, jz_eq, jz_ix, jin_z, jz_div, jzw, jwz, jw_lit, jw_neg, jw_add, jw_sub, jw_mul, jw_lt, jw_le, jw_eq, jw_div, Int.toNat_natCast, if_pos, if_neg, if_true, if_false, Option.bind_some, Int.natCast_add, Int.natCast_mul, Int.cast_ofNat_Int, Int.reduceToNat, Int.reduceAdd, Int.reduceMul, Int.reduceSub, Int.reduceNeg, Nat.reduceAdd, Nat.reduceMul, e1, l1]
      rw [tdiv_nn hb3]
    · unfold fM_above; rw [mt1, ht]
      simp (disch := omega) only [Bool.false_eq_true, jz_lit, jz_neg, jz_nat, jz_add, jz_sub, jz_mul, jz_lt, jz_le, jz_eq, jz_ix, jin_z, jz_div, jzw, jwz, jw_lit, jw_neg, jw_add, jw_sub, jw_mul, jw_lt, jw_le, jw_eq, jw_div, Int.toNat_natCast, if_pos, if_neg, if_true, if_false, Option.bind_some, Int.natCast_add, Int.natCast_mul, Int.cast_ofNat_Int, Int.reduceToNat, Int.reduceAdd, Int.reduceMul, Int.reduceSub, Int.reduceNeg, Nat.reduceAdd, Nat.reduceMul, sM_isIn, e2, l2, z2]
      rw [tdiv_nn (by omega)]
  · refine ⟨(jz (-1), h), ?_, (jz (-1), h), ?_, rfl, V0⟩
    · unfold fA_above; rw [ct, ht]
      by_cases e : a < 0
      · simp (disch := omega) only [Bool.false_eq_true, jz_lit, jz_neg, jz_nat, jz_add, jz_sub, jz_mul, jz_lt, jz_le, jz_eq, jz_ix, jin_z, jz_div, jzw, jwz, jw_lit, jw_neg, jw_add, jw_sub, jw_mul, jw_lt, jw_le, jw_eq, jw_div, Int.toNat_natCast, if_pos, if_neg, if_true, if_false, Option.bind_some, Int.natCast_add, Int.natCast_mul, Int.cast_ofNat_Int, Int.reduceToNat, Int.reduceAdd, Int.reduceMul, Int.reduceSub, Int.reduceNeg, Nat.reduceAdd, Nat.reduceMul]
      · simp (disch := omega) only [Bool.false_eq_true, jz_lit, jz_neg, jz_nat, jz_add, jz_sub, jz_mul, jz_lt, jz_le, jz_eq, jz_ix, jin_z, jz_div, jzw, jwz, jw_lit, jw_neg, jw_add, jw_sub, jw_mul, jw_lt, jw_le, jw_eq, jw_div, Int.toNat_natCast, if_pos, if_neg, if_true, if_false, Option.bind_some, Int.natCast_add, Int.natCast_mul, Int.cast_ofNat_Int, Int.reduceToNat, Int.reduceAdd, Int.reduceMul, Int.reduceSub, Int.reduceNeg, Nat.reduceAdd, Nat.reduceMul]
    · unfold fM_above; rw [mt, ht]; simp (disch := omega) only [Bool.false_eq_true, jz_lit, jz_neg, jz_nat, jz_add, jz_sub, jz_mul, jz_lt, jz_le, jz_eq, jz_ix, jin_z, jz_div, jzw, jwz, jw_lit, jw_neg, jw_add, jw_sub, jw_mul, jw_lt, jw_le, jw_eq, jw_div, Int.toNat_natCast, if_pos, if_neg, if_true, if_false, Option.bind_some, Int.natCast_add, Int.natCast_mul, Int.cast_ofNat_Int, Int.reduceToNat, Int.reduceAdd, Int.reduceMul, Int.reduceSub, Int.reduceNeg, Nat.reduceAdd, Nat.reduceMul, sM_isIn]
theorem call_19 : jcal_19 jInv := by
  intro p d q h a0 V
  have V0 := V
  obtain ⟨hpd, hq, v1, v2, v3, v4, v5, v6, g, D, S, L, ⟨b, c, m, w1, w2, w3, w4⟩, ⟨bs, cs, ms⟩, -⟩ := V
  have hb_a := jz_bd a0
  generalize ha_a : a0.toInt = a at hb_a
  obtain rfl : a0 = jz a := by rw [← ha_a]; exact jz_self a0
  clear ha_a
  have ct := c.2.2.1.1
  have mt := m.2.2.1.1
  rcases eTold b with ht | ht
  · refine ⟨(jz (-1), h), ?_, (jz (-1), h), ?_, rfl, V0⟩
    · unfold fA_order; rw [ct, ht]; simp (disch := omega) only [Bool.false_eq_true, jz_lit, jz_neg, jz_nat, jz_add, jz_sub, jz_mul, jz_lt, jz_le, jz_eq, jz_ix, jin_z, jz_div, jzw, jwz, jw_lit, jw_neg, jw_add, jw_sub, jw_mul, jw_lt, jw_le, jw_eq, jw_div, Int.toNat_natCast, if_pos, if_neg, if_true, if_false, Option.bind_some, Int.natCast_add, Int.natCast_mul, Int.cast_ofNat_Int, Int.reduceToNat, Int.reduceAdd, Int.reduceMul, Int.reduceSub, Int.reduceNeg, Nat.reduceAdd, Nat.reduceMul]
    · unfold fM_order; rw [mt, ht]; simp (disch := omega) only [Bool.false_eq_true, jz_lit, jz_neg, jz_nat, jz_add, jz_sub, jz_mul, jz_lt, jz_le, jz_eq, jz_ix, jin_z, jz_div, jzw, jwz, jw_lit, jw_neg, jw_add, jw_sub, jw_mul, jw_lt, jw_le, jw_eq, jw_div, Int.toNat_natCast, if_pos, if_neg, if_true, if_false, Option.bind_some, Int.natCast_add, Int.natCast_mul, Int.cast_ofNat_Int, Int.reduceToNat, Int.reduceAdd, Int.reduceMul, Int.reduceSub, Int.reduceNeg, Nat.reduceAdd, Nat.reduceMul]
  by_cases ga : 0 ≤ a ∧ a ≤ 32
  · obtain ⟨n, rfl⟩ : ∃ n : Nat, a = n := ⟨a.toNat, by omega⟩
    obtain ⟨h1, e1, f1, r⟩ := sPy_crowdNow hpd b c bs cs
    obtain ⟨h2, e2, f2, z1, z2⟩ := eLays b (eQC_m f1 m) bs (eQC_ms f1 ms)
    have hT : ∀ i, i < g → 0 ≤ eTens D S i ∧ eTens D S i ≤ 10 := fun i hi => eTens_b b hi
    have c1 := eQC_c hpd f1 c
    have hb := eCost_b (n := (n : Int)) b hT (by omega)
    have hp := p10_b b.1
    have mt1 := (eQC_m f1 m).2.2.1.1
    have o1 := sCr_orderCost (n := (n : Int)) b r hT (by omega)
    have o2 := sM_costOf (n := n) b (eQM_m f2 (eQC_m f1 m)) (by omega) z1 z2
    have es : eCost (eTens D S) D g n * ePw g / 1000000 = eCost (eTens D S) D g n * 100 / (10 : Int) ^ g := eScale b.1 (by omega) (by omega) rfl
    refine ⟨(jz (eCost (eTens D S) D g n * ePw g / 1000000), h1), ?_, (jz (eCost (eTens D S) D g n * 100 / (10 : Int) ^ g), h2), ?_, by rw [es], jInv_q V0 f1 f2⟩
    · unfold fA_order; rw [ct, ht]
      simp (disch := omega) only [Bool.false_eq_true, jz_lit, jz_neg, jz_nat, jz_add, jz_sub, jz_mul, jz_lt, jz_le, jz_eq, jz_ix, jin_z, jz_div, jzw, jwz, jw_lit, jw_neg, jw_add, jw_sub, jw_mul, jw_lt, jw_le, jw_eq, jw_div, Int.toNat_natCast, if_pos, if_neg, if_true, if_false, Option.bind_some, Int.natCast_add, Int.natCast_mul, Int.cast_ofNat_Int, Int.reduceToNat, Int.reduceAdd, Int.reduceMul, Int.reduceSub, Int.reduceNeg, Nat.reduceAdd, Nat.reduceMul, e1, c1.2.1.2.2.1, c1.2.1.2.2.2, o1]
      rw [tdiv_nn hb.2.2.1]
    · unfold fM_order; rw [mt1, ht]
      simp (disch := omega) only [Bool.false_eq_true, jz_lit, jz_neg, jz_nat, jz_add, jz_sub, jz_mul, jz_lt, jz_le, jz_eq, jz_ix, jin_z, jz_div, jzw, jwz, jw_lit, jw_neg, jw_add, jw_sub, jw_mul, jw_lt, jw_le, jw_eq, jw_div, Int.toNat_natCast, if_pos, if_neg, if_true, if_false, Option.bind_some, Int.natCast_add, Int.natCast_mul, Int.cast_ofNat_Int, Int.reduceToNat, Int.reduceAdd, Int.reduceMul, Int.reduceSub, Int.reduceNeg, Nat.reduceAdd, Nat.reduceMul, sM_isIn, e2, o2, z2]
      rw [tdiv_nn (by omega), Int.mul_comm]
  · refine ⟨(jz (-1), h), ?_, (jz (-1), h), ?_, rfl, V0⟩
    · unfold fA_order; rw [ct, ht]
      by_cases e : a < 0
      · simp (disch := omega) only [Bool.false_eq_true, jz_lit, jz_neg, jz_nat, jz_add, jz_sub, jz_mul, jz_lt, jz_le, jz_eq, jz_ix, jin_z, jz_div, jzw, jwz, jw_lit, jw_neg, jw_add, jw_sub, jw_mul, jw_lt, jw_le, jw_eq, jw_div, Int.toNat_natCast, if_pos, if_neg, if_true, if_false, Option.bind_some, Int.natCast_add, Int.natCast_mul, Int.cast_ofNat_Int, Int.reduceToNat, Int.reduceAdd, Int.reduceMul, Int.reduceSub, Int.reduceNeg, Nat.reduceAdd, Nat.reduceMul]
      · simp (disch := omega) only [Bool.false_eq_true, jz_lit, jz_neg, jz_nat, jz_add, jz_sub, jz_mul, jz_lt, jz_le, jz_eq, jz_ix, jin_z, jz_div, jzw, jwz, jw_lit, jw_neg, jw_add, jw_sub, jw_mul, jw_lt, jw_le, jw_eq, jw_div, Int.toNat_natCast, if_pos, if_neg, if_true, if_false, Option.bind_some, Int.natCast_add, Int.natCast_mul, Int.cast_ofNat_Int, Int.reduceToNat, Int.reduceAdd, Int.reduceMul, Int.reduceSub, Int.reduceNeg, Nat.reduceAdd, Nat.reduceMul]
    · unfold fM_order; rw [mt, ht]; simp (disch := omega) only [Bool.false_eq_true, jz_lit, jz_neg, jz_nat, jz_add, jz_sub, jz_mul, jz_lt, jz_le, jz_eq, jz_ix, jin_z, jz_div, jzw, jwz, jw_lit, jw_neg, jw_add, jw_sub, jw_mul, jw_lt, jw_le, jw_eq, jw_div, Int.toNat_natCast, if_pos, if_neg, if_true, if_false, Option.bind_some, Int.natCast_add, Int.natCast_mul, Int.cast_ofNat_Int, Int.reduceToNat, Int.reduceAdd, Int.reduceMul, Int.reduceSub, Int.reduceNeg, Nat.reduceAdd, Nat.reduceMul, sM_isIn]
theorem call_20 : jcal_20 jInv := by
  intro p d q h a0 V
  have V0 := V
  obtain ⟨hpd, hq, v1, v2, v3, v4, v5, v6, g, D, S, L, ⟨b, c, m, w1, w2, w3, w4⟩, ⟨bs, cs, ms⟩, -⟩ := V
  have hb_a := jz_bd a0
  generalize ha_a : a0.toInt = a at hb_a
  obtain rfl : a0 = jz a := by rw [← ha_a]; exact jz_self a0
  clear ha_a
  have ct := c.2.2.1.1
  have mt := m.2.2.1.1
  rcases eTold b with ht | ht
  · refine ⟨(jz (-1), h), ?_, (jz (-1), h), ?_, rfl, V0⟩
    · unfold fA_plates; rw [ct, ht]; simp (disch := omega) only [Bool.false_eq_true, jz_lit, jz_neg, jz_nat, jz_add, jz_sub, jz_mul, jz_lt, jz_le, jz_eq, jz_ix, jin_z, jz_div, jzw, jwz, jw_lit, jw_neg, jw_add, jw_sub, jw_mul, jw_lt, jw_le, jw_eq, jw_div, Int.toNat_natCast, if_pos, if_neg, if_true, if_false, Option.bind_some, Int.natCast_add, Int.natCast_mul, Int.cast_ofNat_Int, Int.reduceToNat, Int.reduceAdd, Int.reduceMul, Int.reduceSub, Int.reduceNeg, Nat.reduceAdd, Nat.reduceMul]
    · unfold fM_plates; rw [mt, ht]; simp (disch := omega) only [Bool.false_eq_true, jz_lit, jz_neg, jz_nat, jz_add, jz_sub, jz_mul, jz_lt, jz_le, jz_eq, jz_ix, jin_z, jz_div, jzw, jwz, jw_lit, jw_neg, jw_add, jw_sub, jw_mul, jw_lt, jw_le, jw_eq, jw_div, Int.toNat_natCast, if_pos, if_neg, if_true, if_false, Option.bind_some, Int.natCast_add, Int.natCast_mul, Int.cast_ofNat_Int, Int.reduceToNat, Int.reduceAdd, Int.reduceMul, Int.reduceSub, Int.reduceNeg, Nat.reduceAdd, Nat.reduceMul]
  by_cases ga : 0 ≤ a ∧ a ≤ 1
  · obtain ⟨h1, e1, f1, r⟩ := sPy_crowdNow hpd b c bs cs
    obtain ⟨h2, e2, f2, z1, z2⟩ := eLays b (eQC_m f1 m) bs (eQC_ms f1 ms)
    have hT : ∀ i, i < g → 0 ≤ eTens D S i ∧ eTens D S i ≤ 10 := fun i hi => eTens_b b hi
    have c1 := eQC_c hpd f1 c
    have hle : eLo (eCost (eTens D S) D g) 33 ≤ 32 := by
      have h9 := eLo_le (eCost (eTens D S) D g) 32
      unfold eLo
      split <;> omega
    generalize hn : eLo (eCost (eTens D S) D g) 33 = n at *
    have hb := eCost_b (n := (n : Int)) b hT (by omega)
    have hp := p10_b b.1
    have mt1 := (eQC_m f1 m).2.2.1.1
    have o1 := sCr_orderCost (n := (n : Int)) b r hT (by omega)
    have o2 := sM_costOf (n := n) b (eQM_m f2 (eQC_m f1 m)) (by omega) z1 z2
    have k1 := sCr_leastOrder b r hT
    have k2 := sM_bestOrder b (eQM_m f2 (eQC_m f1 m)) hT z1 z2
    rw [hn] at k1 k2
    have es : eCost (eTens D S) D g n * ePw g / 1000000 = eCost (eTens D S) D g n * 100 / (10 : Int) ^ g := eScale b.1 (by omega) (by omega) rfl
    by_cases e0 : a = 0
    · subst e0
      refine ⟨(jz n, h1), ?_, (jz n, h2), ?_, rfl, jInv_q V0 f1 f2⟩
      · unfold fA_plates; rw [ct, ht]
        simp (disch := omega) only [Bool.false_eq_true, jz_lit, jz_neg, jz_nat, jz_add, jz_sub, jz_mul, jz_lt, jz_le, jz_eq, jz_ix, jin_z, jz_div, jzw, jwz, jw_lit, jw_neg, jw_add, jw_sub, jw_mul, jw_lt, jw_le, jw_eq, jw_div, Int.toNat_natCast, if_pos, if_neg, if_true, if_false, Option.bind_some, Int.natCast_add, Int.natCast_mul, Int.cast_ofNat_Int, Int.reduceToNat, Int.reduceAdd, Int.reduceMul, Int.reduceSub, Int.reduceNeg, Nat.reduceAdd, Nat.reduceMul, e1, c1.2.1.2.2.1, c1.2.1.2.2.2, k1]
      · unfold fM_plates; rw [mt1, ht]
        simp (disch := omega) only [Bool.false_eq_true, jz_lit, jz_neg, jz_nat, jz_add, jz_sub, jz_mul, jz_lt, jz_le, jz_eq, jz_ix, jin_z, jz_div, jzw, jwz, jw_lit, jw_neg, jw_add, jw_sub, jw_mul, jw_lt, jw_le, jw_eq, jw_div, Int.toNat_natCast, if_pos, if_neg, if_true, if_false, Option.bind_some, Int.natCast_add, Int.natCast_mul, Int.cast_ofNat_Int, Int.reduceToNat, Int.reduceAdd, Int.reduceMul, Int.reduceSub, Int.reduceNeg, Nat.reduceAdd, Nat.reduceMul, sM_isIn, e2, k2]
    · refine ⟨(jz (eCost (eTens D S) D g n * ePw g / 1000000), h1), ?_, (jz (eCost (eTens D S) D g n * 100 / (10 : Int) ^ g), h2), ?_, by rw [es], jInv_q V0 f1 f2⟩
      · unfold fA_plates; rw [ct, ht]
        simp (disch := omega) only [Bool.false_eq_true, jz_lit, jz_neg, jz_nat, jz_add, jz_sub, jz_mul, jz_lt, jz_le, jz_eq, jz_ix, jin_z, jz_div, jzw, jwz, jw_lit, jw_neg, jw_add, jw_sub, jw_mul, jw_lt, jw_le, jw_eq, jw_div, Int.toNat_natCast, if_pos, if_neg, if_true, if_false, Option.bind_some, Int.natCast_add, Int.natCast_mul, Int.cast_ofNat_Int, Int.reduceToNat, Int.reduceAdd, Int.reduceMul, Int.reduceSub, Int.reduceNeg, Nat.reduceAdd, Nat.reduceMul, e1, c1.2.1.2.2.1, c1.2.1.2.2.2, k1, o1]
        rw [tdiv_nn hb.2.2.1]
      · unfold fM_plates; rw [mt1, ht]
        simp (disch := omega) only [Bool.false_eq_true, jz_lit, jz_neg, jz_nat, jz_add, jz_sub, jz_mul, jz_lt, jz_le, jz_eq, jz_ix, jin_z, jz_div, jzw, jwz, jw_lit, jw_neg, jw_add, jw_sub, jw_mul, jw_lt, jw_le, jw_eq, jw_div, Int.toNat_natCast, if_pos, if_neg, if_true, if_false, Option.bind_some, Int.natCast_add, Int.natCast_mul, Int.cast_ofNat_Int, Int.reduceToNat, Int.reduceAdd, Int.reduceMul, Int.reduceSub, Int.reduceNeg, Nat.reduceAdd, Nat.reduceMul, sM_isIn, e2, k2, o2, z2]
        rw [tdiv_nn (by omega), Int.mul_comm]
  · refine ⟨(jz (-1), h), ?_, (jz (-1), h), ?_, rfl, V0⟩
    · unfold fA_plates; rw [ct, ht]
      by_cases e : a < 0
      · simp (disch := omega) only [Bool.false_eq_true, jz_lit, jz_neg, jz_nat, jz_add, jz_sub, jz_mul, jz_lt, jz_le, jz_eq, jz_ix, jin_z, jz_div, jzw, jwz, jw_lit, jw_neg, jw_add, jw_sub, jw_mul, jw_lt, jw_le, jw_eq, jw_div, Int.toNat_natCast, if_pos, if_neg, if_true, if_false, Option.bind_some, Int.natCast_add, Int.natCast_mul, Int.cast_ofNat_Int, Int.reduceToNat, Int.reduceAdd, Int.reduceMul, Int.reduceSub, Int.reduceNeg, Nat.reduceAdd, Nat.reduceMul]
      · simp (disch := omega) only [Bool.false_eq_true, jz_lit, jz_neg, jz_nat, jz_add, jz_sub, jz_mul, jz_lt, jz_le, jz_eq, jz_ix, jin_z, jz_div, jzw, jwz, jw_lit, jw_neg, jw_add, jw_sub, jw_mul, jw_lt, jw_le, jw_eq, jw_div, Int.toNat_natCast, if_pos, if_neg, if_true, if_false, Option.bind_some, Int.natCast_add, Int.natCast_mul, Int.cast_ofNat_Int, Int.reduceToNat, Int.reduceAdd, Int.reduceMul, Int.reduceSub, Int.reduceNeg, Nat.reduceAdd, Nat.reduceMul]
    · unfold fM_plates; rw [mt, ht]; simp (disch := omega) only [Bool.false_eq_true, jz_lit, jz_neg, jz_nat, jz_add, jz_sub, jz_mul, jz_lt, jz_le, jz_eq, jz_ix, jin_z, jz_div, jzw, jwz, jw_lit, jw_neg, jw_add, jw_sub, jw_mul, jw_lt, jw_le, jw_eq, jw_div, Int.toNat_natCast, if_pos, if_neg, if_true, if_false, Option.bind_some, Int.natCast_add, Int.natCast_mul, Int.cast_ofNat_Int, Int.reduceToNat, Int.reduceAdd, Int.reduceMul, Int.reduceSub, Int.reduceNeg, Nat.reduceAdd, Nat.reduceMul, sM_isIn]
