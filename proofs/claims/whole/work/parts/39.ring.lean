/-! Whom to RING -/
/-- the least cost of plates, were k known to come by t of ten -/
def eLc (D S : jD) (g k : Nat) (t : Int) : Int := eCost (eT D S k t) D g (eLo (eCost (eT D S k t) D g) 33)
def eRc (D S : jD) (g k : Nat) : Int := eTens D S k * eLc D S g k 10 + (10 - eTens D S k) * eLc D S g k 0
/-- who of the first n is to be rung (-1: none), and what it costs then -/
def eRing (D S : jD) (g : Nat) : Nat → Int × Int
  | 0 => (-1, 0)
  | n + 1 => if (S 1 n = 1 ∨ S 1 n = 4) ∧ ((eRing D S g n).1 = -1 ∨ eRc D S g n < (eRing D S g n).2) then ((n : Int), eRc D S g n) else eRing D S g n
section ER
variable {p d g : Nat} {D S : jD} {h : jH}
theorem eLc_b {k : Nat} {t : Int} (b : bV g D) (ht : 0 ≤ t ∧ t ≤ 10) : 0 ≤ eLc D S g k t ∧ eLc D S g k t ≤ 200000 * (10 : Int) ^ g ∧ 0 ≤ eLc D S g k t * ePw g ∧ eLc D S g k t * ePw g ≤ 20000000000000 := by
  have hle : eLo (eCost (eT D S k t) D g) 33 ≤ 32 := by
    have h9 := eLo_le (eCost (eT D S k t) D g) 32
    unfold eLo
    split <;> omega
  exact eCost_b b (fun i hi => eT_b b ht hi) (by omega)
theorem eRc_b {k : Nat} (b : bV g D) (hk : k < g) : 0 ≤ eRc D S g k ∧ eRc D S g k ≤ 2000000 * (10 : Int) ^ g ∧ 0 ≤ eRc D S g k * ePw g ∧ eRc D S g k * ePw g ≤ 200000000000000 := by
  have h1 := eLc_b (S := S) (k := k) (t := 10) b (by omega)
  have h2 := eLc_b (S := S) (k := k) (t := 0) b (by omega)
  have h3 := eTens_b (S := S) b hk
  have h0 : (0 : Int) < (10 : Int) ^ g := Int.pow_pos (by omega)
  have p1 := ePw_b g
  have p2 := ePw_all b.1
  have a1 : 0 ≤ eTens D S k * eLc D S g k 10 := Int.mul_nonneg h3.1 h1.1
  have a2 : 0 ≤ (10 - eTens D S k) * eLc D S g k 0 := Int.mul_nonneg (by omega) h2.1
  have a3 : eTens D S k * eLc D S g k 10 ≤ eTens D S k * (200000 * (10 : Int) ^ g) := Int.mul_le_mul_of_nonneg_left h1.2.1 h3.1
  have a4 : (10 - eTens D S k) * eLc D S g k 0 ≤ (10 - eTens D S k) * (200000 * (10 : Int) ^ g) := Int.mul_le_mul_of_nonneg_left h2.2.1 (by omega)
  have a5 : eTens D S k * (200000 * (10 : Int) ^ g) + (10 - eTens D S k) * (200000 * (10 : Int) ^ g) = 10 * (200000 * (10 : Int) ^ g) := by
    rw [← Int.add_mul]; congr 1; omega
  have e1 : 0 ≤ eRc D S g k := by unfold eRc; omega
  have e2 : eRc D S g k ≤ 2000000 * (10 : Int) ^ g := by unfold eRc; omega
  refine ⟨e1, e2, Int.mul_nonneg e1 (by omega), ?_⟩
  have a7 : eRc D S g k * ePw g ≤ 2000000 * (10 : Int) ^ g * ePw g := Int.mul_le_mul_of_nonneg_right e2 (by omega)
  rw [Int.mul_assoc, Int.mul_comm ((10 : Int) ^ g), p2] at a7
  omega
theorem eRing_b (b : bV g D) : ∀ n, n ≤ g → -1 ≤ (eRing D S g n).1 ∧ (eRing D S g n).1 < n ∧ 0 ≤ (eRing D S g n).2 ∧ (eRing D S g n).2 ≤ 2000000 * (10 : Int) ^ g ∧ 0 ≤ (eRing D S g n).2 * ePw g ∧ (eRing D S g n).2 * ePw g ≤ 200000000000000 := by
  intro n
  induction n with
  | zero => intro _; have h0 : (0 : Int) < (10 : Int) ^ g := Int.pow_pos (by omega); simp [eRing]; omega
  | succ n ih =>
    intro hn
    have h1 := ih (by omega)
    have h2 := eRc_b (S := S) b (show n < g by omega)
    unfold eRing
    split
    · exact ⟨by show -1 ≤ (n : Int); omega, by show (n : Int) < _; omega, h2.1, h2.2.1, h2.2.2.1, h2.2.2.2⟩
    · omega
theorem sCh_leastCost {k : Nat} {t : Int} (hpd : iPD p d) (b : bV g D) (c : cV p g D h) (bs : bS g S) (cs : cS 11 S h) (ht : 0 ≤ t ∧ t ≤ 10) (hk : k < g) : ∃ h', fCh_leastCost p (jz k) (jz t) h = some (jw (eLc D S g k t * ePw g), h') ∧ eFr (fun o _ => o = 80 ∨ o = 81) h h' := by
  have b0 := b.1
  have hpd2 := hpd
  unfold iPD at hpd2
  obtain ⟨h1, e1, f1, r1⟩ := sPy_crowdWhen (kn := (k : Int)) (t := t) hpd b c bs cs ht (by omega)
  have c1 : cV p g D h1 := cV_fr (fun o k hk => f1.1 o k (by omega)) c
  have hT : ∀ i, i < g → 0 ≤ eT D S k t i ∧ eT D S k t i ≤ 10 := fun i hi => eT_b b ht hi
  have l1 := sCr_leastOrder b r1 hT
  have hle : eLo (eCost (eT D S k t) D g) 33 ≤ 32 := by
    have h9 := eLo_le (eCost (eT D S k t) D g) 32
    unfold eLo
    split <;> omega
  have o1 := sCr_orderCost (n := (eLo (eCost (eT D S k t) D g) 33 : Nat)) b r1 hT (by omega)
  refine ⟨h1, ?_, f1⟩
  unfold fCh_leastCost
  rw [e1, Option.bind_some, c1.2.1.2.2.1, c1.2.1.2.2.2, l1, Option.bind_some, o1, Option.bind_some]
  rfl
theorem sM_costBy {k : Nat} {w t : Int} (b : bV g D) (m : mV g D h) (bs : bS g S) (ms : mS S h) (hk : k < g) (hw : (w = 2 ∧ t = 10) ∨ (w = 3 ∧ t = 0)) : ∃ h', fM_costBy (jz k) (jz w) h = some (jw (eLc D S g k t), h') ∧ eFr eQM h h' ∧ h'.2 110 53 = jw ((10 : Int) ^ g) := by
  have b0 := b.1
  have i1 : ((2 : Int) + 2 * (k : Int)).toNat = 2 + 2 * k := by omega
  have m1 : mV g D (jhI h 148 (2 + 2 * k) (jz w)) := mV_fr (fun o k' hk' => by rw [jhI_1, if_neg (by omega)]) m
  have ms1 := mS_up1 (v := w) ms (show k < 8 by omega)
  have bs1 := eUp_b1 (v := w) bs hk (by omega)
  obtain ⟨h1, e1, f1, z1, z2⟩ := eLays b m1 bs1 ms1
  have eT1 : eTens D (eUp S 1 k w) = eT D S k t := by
    funext i
    unfold eT
    by_cases e : i = k
    · subst e
      rw [if_pos rfl]
      have e2 : eUp S 1 i w 1 i = w := by simp [eUp]
      unfold eTens
      rw [e2]
      rcases hw with ⟨rfl, rfl⟩ | ⟨rfl, rfl⟩ <;> simp
    · rw [if_neg (by omega)]
      have e2 : eUp S 1 k w 1 i = S 1 i := by simp [eUp, e]
      unfold eTens
      rw [e2]
  rw [eT1] at z1
  have m2 : mV g D (jhI h1 148 (2 + 2 * k) (jz (S 1 k))) := mV_fr (fun o k' hk' => by rw [jhI_1, if_neg (by omega), f1.1 _ _ (by unfold eQM; omega)]) m1
  have ht : 0 ≤ t ∧ t ≤ 10 := by omega
  have hT : ∀ i, i < g → 0 ≤ eT D S k t i ∧ eT D S k t i ≤ 10 := fun i hi => eT_b b ht hi
  have l1 := sM_bestOrder (T := eT D S k t) b m2 hT (fun n hn => by rw [jhI_2]; exact z1 n hn) (by rw [jhI_2]; exact z2)
  have hle : eLo (eCost (eT D S k t) D g) 33 ≤ 32 := by
    have h9 := eLo_le (eCost (eT D S k t) D g) 32
    unfold eLo
    split <;> omega
  have o1 := sM_costOf (T := eT D S k t) (n := eLo (eCost (eT D S k t) D g) 33) b m2 hle (fun n hn => by rw [jhI_2]; exact z1 n hn) (by rw [jhI_2]; exact z2)
  refine ⟨jhI h1 148 (2 + 2 * k) (jz (S 1 k)), ?_, ⟨fun o k' n => ?_, fun o k' n => ?_⟩, ?_⟩
  · unfold fM_costBy
    simp (disch := omega) only [Bool.false_eq_true, jz_lit, jz_neg, jz_nat, jz_add, jz_sub, jz_mul, jz_lt, jz_le, jz_eq, jz_ix, jin_z, jz_div, jzw, jwz, jw_lit, jw_neg, jw_add, jw_sub, jw_mul, jw_lt, jw_le, jw_eq, jw_div, Int.toNat_natCast, if_pos, if_neg, if_true, if_false, Option.bind_some, Int.natCast_add, Int.natCast_mul, Int.cast_ofNat_Int, Int.reduceToNat, Int.reduceAdd, Int.reduceMul, Int.reduceSub, Int.reduceNeg, Nat.reduceAdd, Nat.reduceMul, sM_howOf ms (show k < 8 by omega), i1, e1, l1, o1]
    rfl
  · rw [jhI_1]
    by_cases e : o = 148 ∧ k' = 2 + 2 * k
    · obtain ⟨rfl, rfl⟩ := e
      rw [if_pos ⟨rfl, rfl⟩, (ms.2.2 k (by omega)).1]
    · rw [if_neg e, f1.1 _ _ n, jhI_1, if_neg e]
  · rw [jhI_2, f1.2 _ _ n, jhI_2]
  · rw [jhI_2]; exact z2
theorem sCh_findRing (hpd : iPD p d) (b : bV g D) (c : cV p g D h) (bs : bS g S) (cs : cS 11 S h) : ∃ h', fCh_findRing p h = some (jz (eRing D S g g).1, h') ∧ eFr eQC h h' ∧ ((eRing D S g g).1 ≠ -1 → h'.2 96 5 = jw ((eRing D S g g).2 * ePw g)) := by
  have b0 := b.1
  have hpd2 := hpd
  unfold iPD at hpd2
  have hl := jlim_cnt (step := fCh_findRing_l12 p 11) (fun k (x : Int32 × jH) => (x.1, jz k, x.2)) (fun k x => x.1 = jz (eRing D S g k).1 ∧ eFr eQC h x.2 ∧ ((eRing D S g k).1 ≠ -1 → x.2.2 96 5 = jw ((eRing D S g k).2 * ePw g))) (fun x => x.1 = jz (eRing D S g g).1 ∧ eFr eQC h x.2 ∧ ((eRing D S g g).1 ≠ -1 → x.2.2 96 5 = jw ((eRing D S g g).2 * ePw g))) g g 0 (by omega) (jz (-1), h) ⟨rfl, eFr_refl _ _, fun n => absurd rfl n⟩ ?_ ?_
  · obtain ⟨x, e1, r0, r1, r2⟩ := hl
    refine ⟨x.2, ?_, r1, r2⟩
    unfold fCh_findRing
    have e1' : jlim (fCh_findRing_l12 p 11) (jz (-1), jz 0, h) = some x := e1
    rw [show (-1 : Int32) = jz (-1) from rfl, show (0 : Int32) = jz 0 from rfl, e1', Option.bind_some, r0]
  · rintro k ⟨v, x⟩ _ hk ⟨q0, q1, q2⟩
    simp only at q0 q1 q2
    have c1 := eQC_c hpd q1 c
    have cs1 := eQC_s q1 cs
    have cs2 := cS11 cs1
    have ht := eTens_b (S := S) b hk
    obtain ⟨h1, e1, f1⟩ := sCh_leastCost (t := 10) hpd b c1 bs cs1 (by omega) hk
    have c2 : cV p g D h1 := cV_fr (fun o k hk => f1.1 o k (by omega)) c1
    have cs3 : cS 11 S h1 := cS_fr (fun o k hk => f1.1 o k (by omega)) cs1
    obtain ⟨h2, e2, f2⟩ := sCh_leastCost (t := 0) hpd b c2 bs cs3 (by omega) hk
    have F2 : eFr eQC h h2 := eFr_trans q1 (eFr_mono (eFr_trans f1 f2) (fun o k hk => by unfold eQC; omega))
    have h96 : h2.2 96 5 = x.2 96 5 := by rw [f2.2 _ _ (by omega), f1.2 _ _ (by omega)]
    have bb := eRing_b (S := S) b k (by omega)
    have br := eRc_b (S := S) b hk
    have bk := bs.2.2.2.2 k (by omega)
    have p1 := ePw_b g
    have es : eRing D S g (k + 1) = if (S 1 k = 1 ∨ S 1 k = 4) ∧ ((eRing D S g k).1 = -1 ∨ eRc D S g k < (eRing D S g k).2) then ((k : Int), eRc D S g k) else eRing D S g k := rfl
    have hc : eTens D S k * (eLc D S g k 10 * ePw g) + (10 - eTens D S k) * (eLc D S g k 0 * ePw g) = eRc D S g k * ePw g := by
      unfold eRc
      rw [Int.add_mul, Int.mul_assoc, Int.mul_assoc]
    have hy := sPy_comesNow b c1 bs cs1 hk
    simp only [fCh_findRing_l12, fCh_findRing_l12_b, fCh_findRing_l12_j52, fCh_findRing_l12_j104, fCh_findRing_l12_j112, c1.1, q0]
    generalize eRing D S g k = r at *
    obtain ⟨r1, r2⟩ := r
    simp only at *
    by_cases g0 : S 1 k = 1 ∨ S 1 k = 4
    · by_cases g1 : r1 = -1
      · have e9 : eRing D S g (k + 1) = ((k : Int), eRc D S g k) := by rw [es, if_pos ⟨g0, Or.inl g1⟩]
        rw [e9]
        refine ⟨(jz k, jhL h2 96 5 (jw (eRc D S g k * ePw g))), ?_, rfl, eFr_L (S := eQC) F2 (by unfold eQC; omega) _, fun _ => rfl⟩
        rcases g0 with g0 | g0
        · simp (disch := omega) only [Bool.false_eq_true, jz_lit, jz_neg, jz_nat, jz_add, jz_sub, jz_mul, jz_lt, jz_le, jz_eq, jz_ix, jin_z, jz_div, jzw, jwz, jw_lit, jw_neg, jw_add, jw_sub, jw_mul, jw_lt, jw_le, jw_eq, jw_div, Int.toNat_natCast, if_pos, if_neg, if_true, if_false, Option.bind_some, Int.natCast_add, Int.natCast_mul, Int.cast_ofNat_Int, Int.reduceToNat, Int.reduceAdd, Int.reduceMul, Int.reduceSub, Int.reduceNeg, Nat.reduceAdd, Nat.reduceMul, cs2, g0, hy, e1, e2, hc, g1]
        · simp (disch := omega) only [Bool.false_eq_true, jz_lit, jz_neg, jz_nat, jz_add, jz_sub, jz_mul, jz_lt, jz_le, jz_eq, jz_ix, jin_z, jz_div, jzw, jwz, jw_lit, jw_neg, jw_add, jw_sub, jw_mul, jw_lt, jw_le, jw_eq, jw_div, Int.toNat_natCast, if_pos, if_neg, if_true, if_false, Option.bind_some, Int.natCast_add, Int.natCast_mul, Int.cast_ofNat_Int, Int.reduceToNat, Int.reduceAdd, Int.reduceMul, Int.reduceSub, Int.reduceNeg, Nat.reduceAdd, Nat.reduceMul, cs2, g0, hy, e1, e2, hc, g1]
      · have q2' := q2 g1
        rw [← h96] at q2'
        by_cases g2 : eRc D S g k < r2
        · have e9 : eRing D S g (k + 1) = ((k : Int), eRc D S g k) := by rw [es, if_pos ⟨g0, Or.inr g2⟩]
          have g3 : eRc D S g k * ePw g < r2 * ePw g := Int.mul_lt_mul_of_pos_right g2 (by omega)
          rw [e9]
          refine ⟨(jz k, jhL h2 96 5 (jw (eRc D S g k * ePw g))), ?_, rfl, eFr_L (S := eQC) F2 (by unfold eQC; omega) _, fun _ => rfl⟩
          rcases g0 with g0 | g0
          · simp (disch := omega) only [Bool.false_eq_true, jz_lit, jz_neg, jz_nat, jz_add, jz_sub, jz_mul, jz_lt, jz_le, jz_eq, jz_ix, jin_z, jz_div, jzw, jwz, jw_lit, jw_neg, jw_add, jw_sub, jw_mul, jw_lt, jw_le, jw_eq, jw_div, Int.toNat_natCast, if_pos, if_neg, if_true, if_false, Option.bind_some, Int.natCast_add, Int.natCast_mul, Int.cast_ofNat_Int, Int.reduceToNat, Int.reduceAdd, Int.reduceMul, Int.reduceSub, Int.reduceNeg, Nat.reduceAdd, Nat.reduceMul, cs2, g0, hy, e1, e2, hc, q2']
          · simp (disch := omega) only [Bool.false_eq_true, jz_lit, jz_neg, jz_nat, jz_add, jz_sub, jz_mul, jz_lt, jz_le, jz_eq, jz_ix, jin_z, jz_div, jzw, jwz, jw_lit, jw_neg, jw_add, jw_sub, jw_mul, jw_lt, jw_le, jw_eq, jw_div, Int.toNat_natCast, if_pos, if_neg, if_true, if_false, Option.bind_some, Int.natCast_add, Int.natCast_mul, Int.cast_ofNat_Int, Int.reduceToNat, Int.reduceAdd, Int.reduceMul, Int.reduceSub, Int.reduceNeg, Nat.reduceAdd, Nat.reduceMul, cs2, g0, hy, e1, e2, hc, q2']
        · have e9 : eRing D S g (k + 1) = (r1, r2) := by rw [es, if_neg (fun h => h.2.elim g1 g2)]
          have g3 : ¬ eRc D S g k * ePw g < r2 * ePw g := fun h => g2 (Int.lt_of_mul_lt_mul_right h (by omega))
          rw [e9]
          refine ⟨(jz r1, h2), ?_, rfl, F2, fun _ => q2'⟩
          rcases g0 with g0 | g0
          · simp (disch := omega) only [Bool.false_eq_true, jz_lit, jz_neg, jz_nat, jz_add, jz_sub, jz_mul, jz_lt, jz_le, jz_eq, jz_ix, jin_z, jz_div, jzw, jwz, jw_lit, jw_neg, jw_add, jw_sub, jw_mul, jw_lt, jw_le, jw_eq, jw_div, Int.toNat_natCast, if_pos, if_neg, if_true, if_false, Option.bind_some, Int.natCast_add, Int.natCast_mul, Int.cast_ofNat_Int, Int.reduceToNat, Int.reduceAdd, Int.reduceMul, Int.reduceSub, Int.reduceNeg, Nat.reduceAdd, Nat.reduceMul, cs2, g0, hy, e1, e2, hc, q2']
          · simp (disch := omega) only [Bool.false_eq_true, jz_lit, jz_neg, jz_nat, jz_add, jz_sub, jz_mul, jz_lt, jz_le, jz_eq, jz_ix, jin_z, jz_div, jzw, jwz, jw_lit, jw_neg, jw_add, jw_sub, jw_mul, jw_lt, jw_le, jw_eq, jw_div, Int.toNat_natCast, if_pos, if_neg, if_true, if_false, Option.bind_some, Int.natCast_add, Int.natCast_mul, Int.cast_ofNat_Int, Int.reduceToNat, Int.reduceAdd, Int.reduceMul, Int.reduceSub, Int.reduceNeg, Nat.reduceAdd, Nat.reduceMul, cs2, g0, hy, e1, e2, hc, q2']
    · have e9 : eRing D S g (k + 1) = (r1, r2) := by rw [es, if_neg (fun h => g0 h.1)]
      rw [e9]
      refine ⟨(jz r1, x), ?_, rfl, q1, q2⟩
      simp (disch := omega) only [Bool.false_eq_true, jz_lit, jz_neg, jz_nat, jz_add, jz_sub, jz_mul, jz_lt, jz_le, jz_eq, jz_ix, jin_z, jz_div, jzw, jwz, jw_lit, jw_neg, jw_add, jw_sub, jw_mul, jw_lt, jw_le, jw_eq, jw_div, Int.toNat_natCast, if_pos, if_neg, if_true, if_false, Option.bind_some, Int.natCast_add, Int.natCast_mul, Int.cast_ofNat_Int, Int.reduceToNat, Int.reduceAdd, Int.reduceMul, Int.reduceSub, Int.reduceNeg, Nat.reduceAdd, Nat.reduceMul, cs2]
  · rintro ⟨v, x⟩ ⟨q0, q1, q2⟩
    simp only at q0 q1 q2
    have c1 := eQC_c hpd q1 c
    refine ⟨(v, x), ?_, q0, q1, q2⟩
    simp only [fCh_findRing_l12, fCh_findRing_l12_b, c1.1]
    simp (disch := omega) only [Bool.false_eq_true, jz_lit, jz_neg, jz_nat, jz_add, jz_sub, jz_mul, jz_lt, jz_le, jz_eq, jz_ix, jin_z, jz_div, jzw, jwz, jw_lit, jw_neg, jw_add, jw_sub, jw_mul, jw_lt, jw_le, jw_eq, jw_div, Int.toNat_natCast, if_pos, if_neg, if_true, if_false, Option.bind_some, Int.natCast_add, Int.natCast_mul, Int.cast_ofNat_Int, Int.reduceToNat, Int.reduceAdd, Int.reduceMul, Int.reduceSub, Int.reduceNeg, Nat.reduceAdd, Nat.reduceMul]
theorem sM_ringl (w : Int32) (b : bV g D) (m : mV g D h) (bs : bS g S) (ms : mS S h) : ∃ h' v, jlim (fM_ring_l26 w) (jz (-1), jw 0, jz 0, h) = some (jz (eRing D S g g).1, v, h') ∧ eFr eQM h h' ∧ ((eRing D S g g).1 ≠ -1 → v = jw (eRing D S g g).2 ∧ h'.2 110 53 = jw ((10 : Int) ^ g)) := by
  have b0 := b.1
  have hl := jlim_cnt (step := fM_ring_l26 w) (fun k (x : Int32 × Int64 × jH) => (x.1, x.2.1, jz k, x.2.2)) (fun k x => x.1 = jz (eRing D S g k).1 ∧ eFr eQM h x.2.2 ∧ ((eRing D S g k).1 ≠ -1 → x.2.1 = jw (eRing D S g k).2 ∧ x.2.2.2 110 53 = jw ((10 : Int) ^ g))) (fun x => x.1 = jz (eRing D S g g).1 ∧ eFr eQM h x.2.2 ∧ ((eRing D S g g).1 ≠ -1 → x.2.1 = jw (eRing D S g g).2 ∧ x.2.2.2 110 53 = jw ((10 : Int) ^ g))) g g 0 (by omega) (jz (-1), jw 0, h) ⟨rfl, eFr_refl _ _, fun n => absurd rfl n⟩ ?_ ?_
  · obtain ⟨x, e1, r0, r1, r2⟩ := hl
    refine ⟨x.2.2, x.2.1, ?_, r1, r2⟩
    rw [← r0]
    exact e1
  · rintro k ⟨v, u, x⟩ _ hk ⟨q0, q1, q2⟩
    simp only at q0 q1 q2
    have m1 := eQM_m q1 m
    have ms1 := eQM_ms q1 ms
    have ht := eTens_b (S := S) b hk
    obtain ⟨h1, e1, f1, z1⟩ := sM_costBy (w := 2) (t := 10) b m1 bs ms1 hk (Or.inl ⟨rfl, rfl⟩)
    obtain ⟨h2, e2, f2, z2⟩ := sM_costBy (w := 3) (t := 0) b (eQM_m f1 m1) bs (eQM_ms f1 ms1) hk (Or.inr ⟨rfl, rfl⟩)
    have F2 : eFr eQM h h2 := eFr_trans q1 (eFr_trans f1 f2)
    have bb := eRing_b (S := S) b k (by omega)
    have br := eRc_b (S := S) b hk
    have bk := bs.2.2.2.2 k (by omega)
    have p9 := p10_b b.1
    have es : eRing D S g (k + 1) = if (S 1 k = 1 ∨ S 1 k = 4) ∧ ((eRing D S g k).1 = -1 ∨ eRc D S g k < (eRing D S g k).2) then ((k : Int), eRc D S g k) else eRing D S g k := rfl
    have hc : eLc D S g k 10 * eTens D S k + eLc D S g k 0 * (10 - eTens D S k) = eRc D S g k := by
      unfold eRc
      rw [Int.mul_comm, Int.mul_comm (eLc D S g k 0)]
    have hy := sM_tensOf b m1 bs ms1 hk
    have hw := sM_howOf ms1 (show k < 8 by omega)
    simp only [fM_ring_l26, fM_ring_l26_b, fM_ring_l26_j58, fM_ring_l26_j109, fM_ring_l26_j115, sM_guestMany m1, q0]
    generalize eRing D S g k = r at *
    obtain ⟨r1, r2⟩ := r
    simp only at *
    by_cases g0 : S 1 k = 1 ∨ S 1 k = 4
    · by_cases g1 : r1 = -1
      · have e9 : eRing D S g (k + 1) = ((k : Int), eRc D S g k) := by rw [es, if_pos ⟨g0, Or.inl g1⟩]
        rw [e9]
        refine ⟨(jz k, jw (eRc D S g k), h2), ?_, rfl, F2, fun _ => ⟨rfl, z2⟩⟩
        rcases g0 with g0 | g0
        · simp (disch := omega) only [Bool.false_eq_true, jz_lit, jz_neg, jz_nat, jz_add, jz_sub, jz_mul, jz_lt, jz_le, jz_eq, jz_ix, jin_z, jz_div, jzw, jwz, jw_lit, jw_neg, jw_add, jw_sub, jw_mul, jw_lt, jw_le, jw_eq, jw_div, Int.toNat_natCast, if_pos, if_neg, if_true, if_false, Option.bind_some, Int.natCast_add, Int.natCast_mul, Int.cast_ofNat_Int, Int.reduceToNat, Int.reduceAdd, Int.reduceMul, Int.reduceSub, Int.reduceNeg, Nat.reduceAdd, Nat.reduceMul, hw, g0, hy, e1, e2, hc, g1]
        · simp (disch := omega) only [Bool.false_eq_true, jz_lit, jz_neg, jz_nat, jz_add, jz_sub, jz_mul, jz_lt, jz_le, jz_eq, jz_ix, jin_z, jz_div, jzw, jwz, jw_lit, jw_neg, jw_add, jw_sub, jw_mul, jw_lt, jw_le, jw_eq, jw_div, Int.toNat_natCast, if_pos, if_neg, if_true, if_false, Option.bind_some, Int.natCast_add, Int.natCast_mul, Int.cast_ofNat_Int, Int.reduceToNat, Int.reduceAdd, Int.reduceMul, Int.reduceSub, Int.reduceNeg, Nat.reduceAdd, Nat.reduceMul, hw, g0, hy, e1, e2, hc, g1]
      · obtain ⟨q3, q4⟩ := q2 g1
        by_cases g2 : eRc D S g k < r2
        · have e9 : eRing D S g (k + 1) = ((k : Int), eRc D S g k) := by rw [es, if_pos ⟨g0, Or.inr g2⟩]
          rw [e9]
          refine ⟨(jz k, jw (eRc D S g k), h2), ?_, rfl, F2, fun _ => ⟨rfl, z2⟩⟩
          rcases g0 with g0 | g0
          · simp (disch := omega) only [Bool.false_eq_true, jz_lit, jz_neg, jz_nat, jz_add, jz_sub, jz_mul, jz_lt, jz_le, jz_eq, jz_ix, jin_z, jz_div, jzw, jwz, jw_lit, jw_neg, jw_add, jw_sub, jw_mul, jw_lt, jw_le, jw_eq, jw_div, Int.toNat_natCast, if_pos, if_neg, if_true, if_false, Option.bind_some, Int.natCast_add, Int.natCast_mul, Int.cast_ofNat_Int, Int.reduceToNat, Int.reduceAdd, Int.reduceMul, Int.reduceSub, Int.reduceNeg, Nat.reduceAdd, Nat.reduceMul, hw, g0, hy, e1, e2, hc, q3]
          · simp (disch := omega) only [Bool.false_eq_true, jz_lit, jz_neg, jz_nat, jz_add, jz_sub, jz_mul, jz_lt, jz_le, jz_eq, jz_ix, jin_z, jz_div, jzw, jwz, jw_lit, jw_neg, jw_add, jw_sub, jw_mul, jw_lt, jw_le, jw_eq, jw_div, Int.toNat_natCast, if_pos, if_neg, if_true, if_false, Option.bind_some, Int.natCast_add, Int.natCast_mul, Int.cast_ofNat_Int, Int.reduceToNat, Int.reduceAdd, Int.reduceMul, Int.reduceSub, Int.reduceNeg, Nat.reduceAdd, Nat.reduceMul, hw, g0, hy, e1, e2, hc, q3]
        · have e9 : eRing D S g (k + 1) = (r1, r2) := by rw [es, if_neg (fun h => h.2.elim g1 g2)]
          rw [e9]
          refine ⟨(jz r1, jw r2, h2), ?_, rfl, F2, fun _ => ⟨rfl, z2⟩⟩
          rcases g0 with g0 | g0
          · simp (disch := omega) only [Bool.false_eq_true, jz_lit, jz_neg, jz_nat, jz_add, jz_sub, jz_mul, jz_lt, jz_le, jz_eq, jz_ix, jin_z, jz_div, jzw, jwz, jw_lit, jw_neg, jw_add, jw_sub, jw_mul, jw_lt, jw_le, jw_eq, jw_div, Int.toNat_natCast, if_pos, if_neg, if_true, if_false, Option.bind_some, Int.natCast_add, Int.natCast_mul, Int.cast_ofNat_Int, Int.reduceToNat, Int.reduceAdd, Int.reduceMul, Int.reduceSub, Int.reduceNeg, Nat.reduceAdd, Nat.reduceMul, hw, g0, hy, e1, e2, hc, q3]
          · simp (disch := omega) only [Bool.false_eq_true, jz_lit, jz_neg, jz_nat, jz_add, jz_sub, jz_mul, jz_lt, jz_le, jz_eq, jz_ix, jin_z, jz_div, jzw, jwz, jw_lit, jw_neg, jw_add, jw_sub, jw_mul, jw_lt, jw_le, jw_eq, jw_div, Int.toNat_natCast, if_pos, if_neg, if_true, if_false, Option.bind_some, Int.natCast_add, Int.natCast_mul, Int.cast_ofNat_Int, Int.reduceToNat, Int.reduceAdd, Int.reduceMul, Int.reduceSub, Int.reduceNeg, Nat.reduceAdd, Nat.reduceMul, hw, g0, hy, e1, e2, hc, q3]
    · have e9 : eRing D S g (k + 1) = (r1, r2) := by rw [es, if_neg (fun h => g0 h.1)]
      rw [e9]
      refine ⟨(jz r1, u, x), ?_, rfl, q1, q2⟩
      simp (disch := omega) only [Bool.false_eq_true, jz_lit, jz_neg, jz_nat, jz_add, jz_sub, jz_mul, jz_lt, jz_le, jz_eq, jz_ix, jin_z, jz_div, jzw, jwz, jw_lit, jw_neg, jw_add, jw_sub, jw_mul, jw_lt, jw_le, jw_eq, jw_div, Int.toNat_natCast, if_pos, if_neg, if_true, if_false, Option.bind_some, Int.natCast_add, Int.natCast_mul, Int.cast_ofNat_Int, Int.reduceToNat, Int.reduceAdd, Int.reduceMul, Int.reduceSub, Int.reduceNeg, Nat.reduceAdd, Nat.reduceMul, hw]
  · rintro ⟨v, u, x⟩ ⟨q0, q1, q2⟩
    simp only at q0 q1 q2
    refine ⟨(v, u, x), ?_, q0, q1, q2⟩
    simp only [fM_ring_l26, fM_ring_l26_b, sM_guestMany (eQM_m q1 m)]
    simp (disch := omega) only [Bool.false_eq_true, jz_lit, jz_neg, jz_nat, jz_add, jz_sub, jz_mul, jz_lt, jz_le, jz_eq, jz_ix, jin_z, jz_div, jzw, jwz, jw_lit, jw_neg, jw_add, jw_sub, jw_mul, jw_lt, jw_le, jw_eq, jw_div, Int.toNat_natCast, if_pos, if_neg, if_true, if_false, Option.bind_some, Int.natCast_add, Int.natCast_mul, Int.cast_ofNat_Int, Int.reduceToNat, Int.reduceAdd, Int.reduceMul, Int.reduceSub, Int.reduceNeg, Nat.reduceAdd, Nat.reduceMul]
end ER
theorem call_21 : jcal_21 jInv := by
  intro p d q h a0 V
  have V0 := V
  obtain ⟨hpd, hq, v1, v2, v3, v4, v5, v6, g, D, S, L, ⟨b, c, m, w1, w2, w3, w4⟩, ⟨bs, cs, ms⟩, -⟩ := V
  have hb_a := jz_bd a0
  generalize ha_a : a0.toInt = a at hb_a
  obtain rfl : a0 = jz a := by rw [← ha_a]; exact jz_self a0
  clear ha_a
  have ct := c.2.2.1.1
  have mt := m.2.2.1.1
  have b0 := b.1
  by_cases ga : 0 ≤ a ∧ a ≤ 1
  · obtain ⟨h1, e1, f1, r1⟩ := sCh_findRing hpd b c bs cs
    have m1 := eQC_m f1 m
    have ms1 := eQC_ms f1 ms
    have mt1 := m1.2.2.1.1
    obtain ⟨h2, v, e2, f2, r2⟩ := sM_ringl (jz a) b m1 bs ms1
    have bb := eRing_b (S := S) b g (Nat.le_refl _)
    have p9 := p10_b b.1
    rcases eTold b with ht | ht
    · have g0 := b.2.2.1.2 ht
      have er : (eRing D S g g).1 = -1 := by rw [g0]; rfl
      refine ⟨(jz (-1), h1), ?_, (jz (-1), h1), ?_, rfl, jInv_q V0 f1 (eFr_refl _ _)⟩
      · unfold fA_ring
        rw [er] at e1
        simp (disch := omega) only [Bool.false_eq_true, jz_lit, jz_neg, jz_nat, jz_add, jz_sub, jz_mul, jz_lt, jz_le, jz_eq, jz_ix, jin_z, jz_div, jzw, jwz, jw_lit, jw_neg, jw_add, jw_sub, jw_mul, jw_lt, jw_le, jw_eq, jw_div, Int.toNat_natCast, if_pos, if_neg, if_true, if_false, Option.bind_some, Int.natCast_add, Int.natCast_mul, Int.cast_ofNat_Int, Int.reduceToNat, Int.reduceAdd, Int.reduceMul, Int.reduceSub, Int.reduceNeg, Nat.reduceAdd, Nat.reduceMul, e1]
      · unfold fM_ring; rw [mt1, ht]; simp (disch := omega) only [Bool.false_eq_true, jz_lit, jz_neg, jz_nat, jz_add, jz_sub, jz_mul, jz_lt, jz_le, jz_eq, jz_ix, jin_z, jz_div, jzw, jwz, jw_lit, jw_neg, jw_add, jw_sub, jw_mul, jw_lt, jw_le, jw_eq, jw_div, Int.toNat_natCast, if_pos, if_neg, if_true, if_false, Option.bind_some, Int.natCast_add, Int.natCast_mul, Int.cast_ofNat_Int, Int.reduceToNat, Int.reduceAdd, Int.reduceMul, Int.reduceSub, Int.reduceNeg, Nat.reduceAdd, Nat.reduceMul]
    · by_cases er : (eRing D S g g).1 = -1
      · refine ⟨(jz (-1), h1), ?_, (jz (-1), h2), ?_, rfl, jInv_q V0 f1 f2⟩
        · unfold fA_ring
          rw [er] at e1
          simp (disch := omega) only [Bool.false_eq_true, jz_lit, jz_neg, jz_nat, jz_add, jz_sub, jz_mul, jz_lt, jz_le, jz_eq, jz_ix, jin_z, jz_div, jzw, jwz, jw_lit, jw_neg, jw_add, jw_sub, jw_mul, jw_lt, jw_le, jw_eq, jw_div, Int.toNat_natCast, if_pos, if_neg, if_true, if_false, Option.bind_some, Int.natCast_add, Int.natCast_mul, Int.cast_ofNat_Int, Int.reduceToNat, Int.reduceAdd, Int.reduceMul, Int.reduceSub, Int.reduceNeg, Nat.reduceAdd, Nat.reduceMul, e1]
        · unfold fM_ring; rw [mt1, ht]
          rw [er] at e2
          simp (disch := omega) only [Bool.false_eq_true, jz_lit, jz_neg, jz_nat, jz_add, jz_sub, jz_mul, jz_lt, jz_le, jz_eq, jz_ix, jin_z, jz_div, jzw, jwz, jw_lit, jw_neg, jw_add, jw_sub, jw_mul, jw_lt, jw_le, jw_eq, jw_div, Int.toNat_natCast, if_pos, if_neg, if_true, if_false, Option.bind_some, Int.natCast_add, Int.natCast_mul, Int.cast_ofNat_Int, Int.reduceToNat, Int.reduceAdd, Int.reduceMul, Int.reduceSub, Int.reduceNeg, Nat.reduceAdd, Nat.reduceMul, sM_isIn, e2]
      · by_cases e0 : a = 0
        · subst e0
          refine ⟨(jz (eRing D S g g).1, h1), ?_, (jz (eRing D S g g).1, h2), ?_, rfl, jInv_q V0 f1 f2⟩
          · unfold fA_ring
            simp (disch := omega) only [Bool.false_eq_true, jz_lit, jz_neg, jz_nat, jz_add, jz_sub, jz_mul, jz_lt, jz_le, jz_eq, jz_ix, jin_z, jz_div, jzw, jwz, jw_lit, jw_neg, jw_add, jw_sub, jw_mul, jw_lt, jw_le, jw_eq, jw_div, Int.toNat_natCast, if_pos, if_neg, if_true, if_false, Option.bind_some, Int.natCast_add, Int.natCast_mul, Int.cast_ofNat_Int, Int.reduceToNat, Int.reduceAdd, Int.reduceMul, Int.reduceSub, Int.reduceNeg, Nat.reduceAdd, Nat.reduceMul, e1]
          · unfold fM_ring; rw [mt1, ht]
            simp (disch := omega) only [Bool.false_eq_true, jz_lit, jz_neg, jz_nat, jz_add, jz_sub, jz_mul, jz_lt, jz_le, jz_eq, jz_ix, jin_z, jz_div, jzw, jwz, jw_lit, jw_neg, jw_add, jw_sub, jw_mul, jw_lt, jw_le, jw_eq, jw_div, Int.toNat_natCast, if_pos, if_neg, if_true, if_false, Option.bind_some, Int.natCast_add, Int.natCast_mul, Int.cast_ofNat_Int, Int.reduceToNat, Int.reduceAdd, Int.reduceMul, Int.reduceSub, Int.reduceNeg, Nat.reduceAdd, Nat.reduceMul, sM_isIn, e2]
        · have r1' := r1 er
          obtain ⟨rfl, r4⟩ := r2 er
          have esc : (eRing D S g g).2 * ePw g / 10000000 = (eRing D S g g).2 * 10 / (10 : Int) ^ g := eScale b.1 (by omega) (by omega) rfl
          refine ⟨(jz ((eRing D S g g).2 * ePw g / 10000000), h1), ?_, (jz ((eRing D S g g).2 * 10 / (10 : Int) ^ g), h2), ?_, by rw [esc], jInv_q V0 f1 f2⟩
          · unfold fA_ring fCh_ringCost
            simp (disch := omega) only [Bool.false_eq_true, jz_lit, jz_neg, jz_nat, jz_add, jz_sub, jz_mul, jz_lt, jz_le, jz_eq, jz_ix, jin_z, jz_div, jzw, jwz, jw_lit, jw_neg, jw_add, jw_sub, jw_mul, jw_lt, jw_le, jw_eq, jw_div, Int.toNat_natCast, if_pos, if_neg, if_true, if_false, Option.bind_some, Int.natCast_add, Int.natCast_mul, Int.cast_ofNat_Int, Int.reduceToNat, Int.reduceAdd, Int.reduceMul, Int.reduceSub, Int.reduceNeg, Nat.reduceAdd, Nat.reduceMul, e1, r1']
            rw [tdiv_nn bb.2.2.2.2.1]
          · unfold fM_ring; rw [mt1, ht]
            simp (disch := omega) only [Bool.false_eq_true, jz_lit, jz_neg, jz_nat, jz_add, jz_sub, jz_mul, jz_lt, jz_le, jz_eq, jz_ix, jin_z, jz_div, jzw, jwz, jw_lit, jw_neg, jw_add, jw_sub, jw_mul, jw_lt, jw_le, jw_eq, jw_div, Int.toNat_natCast, if_pos, if_neg, if_true, if_false, Option.bind_some, Int.natCast_add, Int.natCast_mul, Int.cast_ofNat_Int, Int.reduceToNat, Int.reduceAdd, Int.reduceMul, Int.reduceSub, Int.reduceNeg, Nat.reduceAdd, Nat.reduceMul, sM_isIn, e2, r4]
            rw [tdiv_nn (by omega), Int.mul_comm]
  · refine ⟨(jz (-1), h), ?_, (jz (-1), h), ?_, rfl, V0⟩
    · unfold fA_ring
      by_cases e : a < 0
      · simp (disch := omega) only [Bool.false_eq_true, jz_lit, jz_neg, jz_nat, jz_add, jz_sub, jz_mul, jz_lt, jz_le, jz_eq, jz_ix, jin_z, jz_div, jzw, jwz, jw_lit, jw_neg, jw_add, jw_sub, jw_mul, jw_lt, jw_le, jw_eq, jw_div, Int.toNat_natCast, if_pos, if_neg, if_true, if_false, Option.bind_some, Int.natCast_add, Int.natCast_mul, Int.cast_ofNat_Int, Int.reduceToNat, Int.reduceAdd, Int.reduceMul, Int.reduceSub, Int.reduceNeg, Nat.reduceAdd, Nat.reduceMul]
      · simp (disch := omega) only [Bool.false_eq_true, jz_lit, jz_neg, jz_nat, jz_add, jz_sub, jz_mul, jz_lt, jz_le, jz_eq, jz_ix, jin_z, jz_div, jzw, jwz, jw_lit, jw_neg, jw_add, jw_sub, jw_mul, jw_lt, jw_le, jw_eq, jw_div, Int.toNat_natCast, if_pos, if_neg, if_true, if_false, Option.bind_some, Int.natCast_add, Int.natCast_mul, Int.cast_ofNat_Int, Int.reduceToNat, Int.reduceAdd, Int.reduceMul, Int.reduceSub, Int.reduceNeg, Nat.reduceAdd, Nat.reduceMul]
    · unfold fM_ring
      rcases eTold b with ht | ht
      · rw [mt, ht]; simp (disch := omega) only [Bool.false_eq_true, jz_lit, jz_neg, jz_nat, jz_add, jz_sub, jz_mul, jz_lt, jz_le, jz_eq, jz_ix, jin_z, jz_div, jzw, jwz, jw_lit, jw_neg, jw_add, jw_sub, jw_mul, jw_lt, jw_le, jw_eq, jw_div, Int.toNat_natCast, if_pos, if_neg, if_true, if_false, Option.bind_some, Int.natCast_add, Int.natCast_mul, Int.cast_ofNat_Int, Int.reduceToNat, Int.reduceAdd, Int.reduceMul, Int.reduceSub, Int.reduceNeg, Nat.reduceAdd, Nat.reduceMul]
      · rw [mt, ht]; simp (disch := omega) only [Bool.false_eq_true, jz_lit, jz_neg, jz_nat, jz_add, jz_sub, jz_mul, jz_lt, jz_le, jz_eq, jz_ix, jin_z, jz_div, jzw, jwz, jw_lit, jw_neg, jw_add, jw_sub, jw_mul, jw_lt, jw_le, jw_eq, jw_div, Int.toNat_natCast, if_pos, if_neg, if_true, if_false, Option.bind_some, Int.natCast_add, Int.natCast_mul, Int.cast_ofNat_Int, Int.reduceToNat, Int.reduceAdd, Int.reduceMul, Int.reduceSub, Int.reduceNeg, Nat.reduceAdd, Nat.reduceMul, sM_isIn]
