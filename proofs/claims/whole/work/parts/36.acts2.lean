/-! Acts: answers, weeks, weeks by the seed; ENOUGH -/
/-- standing S with place (a, b) now v -/
def eUp (S : jD) (a b : Nat) (v : Int) : jD := fun x y => if x = a ∧ y = b then v else S x y
section EA2
variable {p d g : Nat} {D S : jD} {h : jH} {q : Nat → Nat} {L : List Int}
theorem eUp_b1 {k : Nat} {v : Int} (bs : bS g S) (hk : k < g) (hv : 1 ≤ v ∧ v ≤ 4) : bS g (eUp S 1 k v) := by
  obtain ⟨a1, a2, a3, a4, a5⟩ := bs
  have e1 : ∀ j, eUp S 1 k v 2 j = S 2 j := fun j => by simp [eUp]
  have e2 : ∀ j, eUp S 1 k v 0 j = S 0 j := fun j => by simp [eUp]
  refine ⟨by rw [e2]; exact a1, by rw [e2]; exact a2, by rw [e2]; exact a3, by rw [e2, e2]; exact a4, fun j hj => ?_⟩
  have a := a5 j hj
  rw [e1]
  unfold eUp
  by_cases e : j = k
  · rw [if_pos ⟨rfl, e⟩]; omega
  · rw [if_neg (by omega)]; exact a
theorem eUp_b0 {v : Int} (bs : bS g S) (hv : S 0 1 ≤ v ∧ v ≤ 999) : bS g (eUp S 0 1 v) := by
  obtain ⟨a1, a2, a3, a4, a5⟩ := bs
  have e1 : eUp S 0 1 v 0 1 = v := by simp [eUp]
  have e2 : eUp S 0 1 v 0 2 = S 0 2 := by simp [eUp]
  have e3 : ∀ j, eUp S 0 1 v 1 j = S 1 j := fun j => by simp [eUp]
  have e4 : ∀ j, eUp S 0 1 v 2 j = S 2 j := fun j => by simp [eUp]
  refine ⟨by rw [e1]; omega, by rw [e1]; omega, by rw [e2]; exact a3, by rw [e1, e2]; omega, fun j hj => ?_⟩
  rw [e3, e4]; exact a5 j hj
theorem cS_up1 {k : Nat} {v : Int} (cs : cS 11 S h) (hk : k < 8) : cS 11 (eUp S 1 k v) (jhI h 12 k (jz v)) := by
  have cs1 := cS11 cs
  refine ⟨?_, ?_, fun j hj => ⟨?_, ?_⟩⟩
  · rw [jhI_1, if_neg (by omega)]; simp only [eUp]; rw [if_neg (by omega)]; exact cs1.1
  · rw [jhI_1, if_neg (by omega)]; simp only [eUp]; rw [if_neg (by omega)]; exact cs1.2.1
  · show (jhI h 12 k (jz v)).1 12 j = _
    rw [jhI_1]
    simp only [eUp, true_and]
    by_cases e : j = k
    · rw [if_pos e, if_pos e]
    · rw [if_neg e, if_neg e]; exact (cs1.2.2 j hj).1
  · rw [jhI_1, if_neg (by omega)]; simp only [eUp]; rw [if_neg (by omega)]; exact (cs1.2.2 j hj).2
theorem mS_up1 {k : Nat} {v : Int} (ms : mS S h) (hk : k < 8) : mS (eUp S 1 k v) (jhI h 148 (2 + 2 * k) (jz v)) := by
  refine ⟨?_, ?_, fun j hj => ⟨?_, ?_⟩⟩
  · rw [jhI_1, if_neg (by omega)]; simp only [eUp]; rw [if_neg (by omega)]; exact ms.1
  · rw [jhI_1, if_neg (by omega)]; simp only [eUp]; rw [if_neg (by omega)]; exact ms.2.1
  · rw [jhI_1]
    simp only [eUp, true_and]
    by_cases e : j = k
    · rw [if_pos e, if_pos (by omega)]
    · rw [if_neg e, if_neg (by omega)]; exact (ms.2.2 j hj).1
  · rw [jhI_1, if_neg (by omega)]; simp only [eUp]; rw [if_neg (by omega)]; exact (ms.2.2 j hj).2
theorem cS_up0 {v : Int} (cs : cS 11 S h) : cS 11 (eUp S 0 1 v) (jhI h 11 0 (jz v)) := by
  have cs1 := cS11 cs
  refine ⟨rfl, ?_, fun j hj => ⟨?_, ?_⟩⟩
  · rw [jhI_1, if_neg (by omega)]; simp only [eUp]; rw [if_neg (by omega)]; exact cs1.2.1
  · rw [jhI_1, if_neg (by omega)]; simp only [eUp]; rw [if_neg (by omega)]; exact (cs1.2.2 j hj).1
  · rw [jhI_1, if_neg (by omega)]; simp only [eUp]; rw [if_neg (by omega)]; exact (cs1.2.2 j hj).2
theorem mS_up0 {v : Int} (ms : mS S h) : mS (eUp S 0 1 v) (jhI h 148 0 (jz v)) := by
  refine ⟨rfl, ?_, fun j hj => ⟨?_, ?_⟩⟩
  · rw [jhI_1, if_neg (by omega)]; simp only [eUp]; rw [if_neg (by omega)]; exact ms.2.1
  · rw [jhI_1, if_neg (by omega)]; simp only [eUp]; rw [if_neg (by omega)]; exact (ms.2.2 j hj).1
  · rw [jhI_1, if_neg (by omega)]; simp only [eUp]; rw [if_neg (by omega)]; exact (ms.2.2 j hj).2
/-- both kept their past: what stands behind -/
theorem eKeep2 {cn w : Nat} {K : Nat → jD} (hq : jq0 q) (hc : cn ≤ 20) (hw : w < 20) (a1 : cPast q cn K h) (cs : cS 11 S h) : ∃ q' h1, fPa_keep q 11 h = some (q', h1) ∧ jq0 q' ∧ eFr ePC h h1 ∧ cPast q' (if cn < 20 then cn + 1 else 20) (eKs S K) h1 ∧ cS 11 S h1 := by
  obtain ⟨q', h1, k1, hq', f1, r1⟩ := sPa_keep hq hc a1 cs
  exact ⟨q', h1, k1, hq', f1, r1, cS_fr (fun o k hk => f1.1 _ _ (by unfold ePC; omega)) cs⟩
end EA2
theorem call_25 : jcal_25 jInv := by
  intro p d q h a0 a1 V
  have V0 := V
  obtain ⟨hpd, hq, v1, v2, v3, v4, v5, v6, g, D, S, L, u1, u2, u3⟩ := V
  have u1' := u1
  obtain ⟨b, c, m, w1, w2, w3, w4⟩ := u1'
  obtain ⟨bs, cs, ms⟩ := u2
  obtain ⟨cn, w, K, hc, hw, ac, am, ak⟩ := jPast_to u3
  have b0 := b.1
  have cs1 := cS11 cs
  have hb_a := jz_bd a0
  generalize ha_a : a0.toInt = a at hb_a
  obtain rfl : a0 = jz a := by rw [← ha_a]; exact jz_self a0
  clear ha_a
  have hb_e := jz_bd a1
  generalize ha_e : a1.toInt = e at hb_e
  obtain rfl : a1 = jz e := by rw [← ha_e]; exact jz_self a1
  clear ha_e
  by_cases ok : (0 ≤ a ∧ a < g) ∧ (2 ≤ e ∧ e ≤ 4) ∧ S 1 a.toNat ≠ 0 ∧ S 1 a.toNat ≠ e
  · obtain ⟨k, rfl⟩ : ∃ k : Nat, a = k := ⟨a.toNat, by omega⟩
    rw [Int.toNat_natCast] at ok
    have hk : k < g := by omega
    have bk := bs.2.2.2.2 k (by omega)
    obtain ⟨q', h1, k1, hq', f1, r1, cs2⟩ := eKeep2 hq hc hw ac cs
    have am2 : mPast cn w K (jhI h1 12 k (jz e)) := mPast_fr (fun o k hk => by unfold ePM at hk; rw [jhI_1, if_neg (by omega), f1.1 _ _ (by unfold ePC; omega)]) am
    have ms2 : mS S (jhI h1 12 k (jz e)) := mS_fr (fun k => by rw [jhI_1, if_neg (by omega), f1.1 _ _ (by unfold ePC; omega)]) ms
    have m2 : mV g D (jhI h1 12 k (jz e)) := mV_fr (fun o k hk => by rw [jhI_1, if_neg (by omega), f1.1 _ _ (by unfold ePC; omega)]) m
    obtain ⟨h3, k3, f3, r3⟩ := sM_keeps hc hw am2 ms2
    have ms3 : mS S h3 := mS_fr (fun k => f3.1 _ _ (by unfold ePM; omega)) ms2
    have i1 : ((2 : Int) + 2 * (k : Int)).toNat = 2 + 2 * k := by omega
    refine ⟨(jz 1, q', jhI h1 12 k (jz e)), ?_, (jz 1, jhI h3 148 (2 + 2 * k) (jz e)), ?_, rfl, ?_⟩
    · unfold fA_answer fA_answer_j47
      rw [sA_isGuest b c hb_a.1 hb_a.2]
      simp (disch := omega) only [Bool.false_eq_true, jz_lit, jz_neg, jz_nat, jz_add, jz_sub, jz_mul, jz_lt, jz_le, jz_eq, jz_ix, jin_z, jz_div, jzw, jwz, jw_lit, jw_neg, jw_add, jw_sub, jw_mul, jw_lt, jw_le, jw_eq, jw_div, Int.toNat_natCast, if_pos, if_neg, if_true, if_false, Option.bind_some, Int.natCast_add, Int.natCast_mul, Int.cast_ofNat_Int, Int.reduceToNat, Int.reduceAdd, Int.reduceMul, Int.reduceSub, Int.reduceNeg, Nat.reduceAdd, Nat.reduceMul, sSd_isAsked bs cs (show k < 8 by omega), cs1, k1]
    · show fM_answer (jz k) (jz e) (jhI h1 12 k (jz e)) = _
      generalize jhI h1 12 k (jz e) = y at *
      unfold fM_answer
      rw [sM_isGuest b m2 hb_a.1 hb_a.2]
      simp (disch := omega) only [Bool.false_eq_true, jz_lit, jz_neg, jz_nat, jz_add, jz_sub, jz_mul, jz_lt, jz_le, jz_eq, jz_ix, jin_z, jz_div, jzw, jwz, jw_lit, jw_neg, jw_add, jw_sub, jw_mul, jw_lt, jw_le, jw_eq, jw_div, Int.toNat_natCast, if_pos, if_neg, if_true, if_false, Option.bind_some, Int.natCast_add, Int.natCast_mul, Int.cast_ofNat_Int, Int.reduceToNat, Int.reduceAdd, Int.reduceMul, Int.reduceSub, Int.reduceNeg, Nat.reduceAdd, Nat.reduceMul, sM_isAsked ms2 bs (show k < 8 by omega), sM_howOf ms2 (show k < 8 by omega), sM_isIn, k3, i1]
    · refine eAct (q' := q') (S' := eUp S 1 k e) hpd hq' v1 v2 v3 v4 v6 u1 (fun o k n => ?_) (fun k => ?_) (iSeed_fr ?_ ?_ v5) ⟨eUp_b1 bs hk (by omega), cS_fr (fun o k hk => ?_) (cS_up1 (v := e) cs2 (show k < 8 by omega)), mS_up1 ms3 (by omega)⟩ (jPast_of (c := if cn < 20 then cn + 1 else 20) (w := (w + 1) % 20) (K := eKs S K) (by split <;> omega) (by omega) (cPast_fr hq' (by split <;> omega) (fun o k hk => ?_) r1) (mPast_fr (fun o k hk => ?_) r3) (fun i hi => eKs_b bs ak i hi hc))
      · unfold eActC ePC ePM at n
        rw [jhI_1, if_neg (by omega), f3.1 _ _ (by unfold ePM; omega), jhI_1, if_neg (by omega), f1.1 _ _ (by unfold ePC; omega)]
      · rw [jhI_2, f3.2 _ _ (by unfold ePM; omega), jhI_2, f1.2 _ _ (by unfold ePC; omega)]
      · rw [jhI_1, if_neg (by omega), f3.1 _ _ (by unfold ePM; omega), jhI_1, if_neg (by omega), f1.1 _ _ (by unfold ePC; omega)]
      · rw [jhI_2, f3.2 _ _ (by unfold ePM; omega), jhI_2, f1.2 _ _ (by unfold ePC; omega)]
      · rw [jhI_1, if_neg (by omega), f3.1 _ _ (by unfold ePM; omega)]
      · unfold ePC at hk
        rw [jhI_1, if_neg (by omega), f3.1 _ _ (by unfold ePM; omega), jhI_1, if_neg (by omega)]
      · unfold ePM at hk
        rw [jhI_1, if_neg (by omega)]
  · refine ⟨(jz 0, q, jhI h 97 2 (h.1 97 2 + 1)), ?_, (jz 0, jhI (jhI h 97 2 (h.1 97 2 + 1)) 112 2 (h.1 112 2 + 1)), ?_, rfl, eInv_ref V0 (by omega)⟩
    · have r : fA_refuse (jz 2) h = some (jhI h 97 2 (h.1 97 2 + 1)) := sA_refuse (k := 2) (by omega) h
      generalize jhI h 97 2 (h.1 97 2 + 1) = y at *
      unfold fA_answer fA_answer_j46 fA_answer_j47
      rw [sA_isGuest b c hb_a.1 hb_a.2]
      by_cases ga : 0 ≤ a ∧ a < g
      · obtain ⟨k, rfl⟩ : ∃ k : Nat, a = k := ⟨a.toNat, by omega⟩
        rw [Int.toNat_natCast] at ok
        have bk := bs.2.2.2.2 k (by omega)
        by_cases g1 : S 1 k = 0
        · simp (disch := omega) only [Bool.false_eq_true, jz_lit, jz_neg, jz_nat, jz_add, jz_sub, jz_mul, jz_lt, jz_le, jz_eq, jz_ix, jin_z, jz_div, jzw, jwz, jw_lit, jw_neg, jw_add, jw_sub, jw_mul, jw_lt, jw_le, jw_eq, jw_div, Int.toNat_natCast, if_pos, if_neg, if_true, if_false, Option.bind_some, Int.natCast_add, Int.natCast_mul, Int.cast_ofNat_Int, Int.reduceToNat, Int.reduceAdd, Int.reduceMul, Int.reduceSub, Int.reduceNeg, Nat.reduceAdd, Nat.reduceMul, sSd_isAsked bs cs (show k < 8 by omega), g1, r]
        by_cases g2 : e < 2
        · simp (disch := omega) only [Bool.false_eq_true, jz_lit, jz_neg, jz_nat, jz_add, jz_sub, jz_mul, jz_lt, jz_le, jz_eq, jz_ix, jin_z, jz_div, jzw, jwz, jw_lit, jw_neg, jw_add, jw_sub, jw_mul, jw_lt, jw_le, jw_eq, jw_div, Int.toNat_natCast, if_pos, if_neg, if_true, if_false, Option.bind_some, Int.natCast_add, Int.natCast_mul, Int.cast_ofNat_Int, Int.reduceToNat, Int.reduceAdd, Int.reduceMul, Int.reduceSub, Int.reduceNeg, Nat.reduceAdd, Nat.reduceMul, sSd_isAsked bs cs (show k < 8 by omega), g1, r]
        by_cases g3 : 4 < e
        · simp (disch := omega) only [Bool.false_eq_true, jz_lit, jz_neg, jz_nat, jz_add, jz_sub, jz_mul, jz_lt, jz_le, jz_eq, jz_ix, jin_z, jz_div, jzw, jwz, jw_lit, jw_neg, jw_add, jw_sub, jw_mul, jw_lt, jw_le, jw_eq, jw_div, Int.toNat_natCast, if_pos, if_neg, if_true, if_false, Option.bind_some, Int.natCast_add, Int.natCast_mul, Int.cast_ofNat_Int, Int.reduceToNat, Int.reduceAdd, Int.reduceMul, Int.reduceSub, Int.reduceNeg, Nat.reduceAdd, Nat.reduceMul, sSd_isAsked bs cs (show k < 8 by omega), g1, r]
        by_cases g4 : S 1 k = e
        · simp (disch := omega) only [Bool.false_eq_true, jz_lit, jz_neg, jz_nat, jz_add, jz_sub, jz_mul, jz_lt, jz_le, jz_eq, jz_ix, jin_z, jz_div, jzw, jwz, jw_lit, jw_neg, jw_add, jw_sub, jw_mul, jw_lt, jw_le, jw_eq, jw_div, Int.toNat_natCast, if_pos, if_neg, if_true, if_false, Option.bind_some, Int.natCast_add, Int.natCast_mul, Int.cast_ofNat_Int, Int.reduceToNat, Int.reduceAdd, Int.reduceMul, Int.reduceSub, Int.reduceNeg, Nat.reduceAdd, Nat.reduceMul, sSd_isAsked bs cs (show k < 8 by omega), g1, cs1, g4, r]
        · exact absurd ⟨ga, by omega, g1, g4⟩ ok
      · simp (disch := omega) only [Bool.false_eq_true, jz_lit, jz_neg, jz_nat, jz_add, jz_sub, jz_mul, jz_lt, jz_le, jz_eq, jz_ix, jin_z, jz_div, jzw, jwz, jw_lit, jw_neg, jw_add, jw_sub, jw_mul, jw_lt, jw_le, jw_eq, jw_div, Int.toNat_natCast, if_pos, if_neg, if_true, if_false, Option.bind_some, Int.natCast_add, Int.natCast_mul, Int.cast_ofNat_Int, Int.reduceToNat, Int.reduceAdd, Int.reduceMul, Int.reduceSub, Int.reduceNeg, Nat.reduceAdd, Nat.reduceMul, r]
    · have hF : eFr (fun o k => o = 97) h (jhI h 97 2 (h.1 97 2 + 1)) := eFr_I (S := fun o k => o = 97) (eFr_refl _ h) rfl _
      have m1 : mV g D (jhI h 97 2 (h.1 97 2 + 1)) := mV_fr (fun o k hk => hF.1 o k (by omega)) m
      have ms1 : mS S (jhI h 97 2 (h.1 97 2 + 1)) := mS_fr (fun k => hF.1 _ k (by omega)) ms
      have hy : (jhI h 97 2 (h.1 97 2 + 1)).1 112 2 = h.1 112 2 := rfl
      show fM_answer (jz a) (jz e) (jhI h 97 2 (h.1 97 2 + 1)) = some (jz 0, jhI (jhI h 97 2 (h.1 97 2 + 1)) 112 2 (h.1 112 2 + 1))
      generalize jhI h 97 2 (h.1 97 2 + 1) = y at *
      unfold fM_answer fM_answer_j39
      rw [sM_isGuest b m1 hb_a.1 hb_a.2]
      by_cases ga : 0 ≤ a ∧ a < g
      · obtain ⟨k, rfl⟩ : ∃ k : Nat, a = k := ⟨a.toNat, by omega⟩
        rw [Int.toNat_natCast] at ok
        have bk := bs.2.2.2.2 k (by omega)
        by_cases g1 : S 1 k = 0
        · simp (disch := omega) only [Bool.false_eq_true, jz_lit, jz_neg, jz_nat, jz_add, jz_sub, jz_mul, jz_lt, jz_le, jz_eq, jz_ix, jin_z, jz_div, jzw, jwz, jw_lit, jw_neg, jw_add, jw_sub, jw_mul, jw_lt, jw_le, jw_eq, jw_div, Int.toNat_natCast, if_pos, if_neg, if_true, if_false, Option.bind_some, Int.natCast_add, Int.natCast_mul, Int.cast_ofNat_Int, Int.reduceToNat, Int.reduceAdd, Int.reduceMul, Int.reduceSub, Int.reduceNeg, Nat.reduceAdd, Nat.reduceMul, sM_isAsked ms1 bs (show k < 8 by omega), g1, hy]
        by_cases g2 : 2 ≤ e ∧ e ≤ 4
        · by_cases g4 : S 1 k = e
          · simp (disch := omega) only [Bool.false_eq_true, jz_lit, jz_neg, jz_nat, jz_add, jz_sub, jz_mul, jz_lt, jz_le, jz_eq, jz_ix, jin_z, jz_div, jzw, jwz, jw_lit, jw_neg, jw_add, jw_sub, jw_mul, jw_lt, jw_le, jw_eq, jw_div, Int.toNat_natCast, if_pos, if_neg, if_true, if_false, Option.bind_some, Int.natCast_add, Int.natCast_mul, Int.cast_ofNat_Int, Int.reduceToNat, Int.reduceAdd, Int.reduceMul, Int.reduceSub, Int.reduceNeg, Nat.reduceAdd, Nat.reduceMul, sM_isAsked ms1 bs (show k < 8 by omega), g1, sM_isIn, sM_howOf ms1 (show k < 8 by omega), g4, hy]
          · exact absurd ⟨ga, by omega, g1, g4⟩ ok
        · simp (disch := omega) only [Bool.false_eq_true, jz_lit, jz_neg, jz_nat, jz_add, jz_sub, jz_mul, jz_lt, jz_le, jz_eq, jz_ix, jin_z, jz_div, jzw, jwz, jw_lit, jw_neg, jw_add, jw_sub, jw_mul, jw_lt, jw_le, jw_eq, jw_div, Int.toNat_natCast, if_pos, if_neg, if_true, if_false, Option.bind_some, Int.natCast_add, Int.natCast_mul, Int.cast_ofNat_Int, Int.reduceToNat, Int.reduceAdd, Int.reduceMul, Int.reduceSub, Int.reduceNeg, Nat.reduceAdd, Nat.reduceMul, sM_isAsked ms1 bs (show k < 8 by omega), g1, sM_isIn, hy]
      · simp (disch := omega) only [Bool.false_eq_true, jz_lit, jz_neg, jz_nat, jz_add, jz_sub, jz_mul, jz_lt, jz_le, jz_eq, jz_ix, jin_z, jz_div, jzw, jwz, jw_lit, jw_neg, jw_add, jw_sub, jw_mul, jw_lt, jw_le, jw_eq, jw_div, Int.toNat_natCast, if_pos, if_neg, if_true, if_false, Option.bind_some, Int.natCast_add, Int.natCast_mul, Int.cast_ofNat_Int, Int.reduceToNat, Int.reduceAdd, Int.reduceMul, Int.reduceSub, Int.reduceNeg, Nat.reduceAdd, Nat.reduceMul, hy]
section EA3
variable {p d g : Nat} {D S : jD} {h : jH} {q : Nat → Nat} {L : List Int}
theorem sA_canPass {n : Int} (b : bV g D) (c : cV p g D h) (bs : bS g S) (cs : cS 11 S h) (h1 : -2147483648 ≤ n) (h2 : n < 2147483648) : fA_canPass (jz n) h = if D 0 10 = 1 ∧ 1 ≤ n ∧ n ≤ 99 ∧ S 0 1 + n ≤ 999 then jz 1 else jz 0 := by
  have ct := c.2.2.1.1
  obtain ⟨a1, a2, -⟩ := bs
  unfold fA_canPass
  rw [ct, cs.1]
  rcases eTold b with ht | ht
  · rw [ht]; simp (disch := omega) only [Bool.false_eq_true, jz_lit, jz_neg, jz_nat, jz_add, jz_sub, jz_mul, jz_lt, jz_le, jz_eq, jz_ix, jin_z, jz_div, jzw, jwz, jw_lit, jw_neg, jw_add, jw_sub, jw_mul, jw_lt, jw_le, jw_eq, jw_div, Int.toNat_natCast, if_pos, if_neg, if_true, if_false, Option.bind_some, Int.natCast_add, Int.natCast_mul, Int.cast_ofNat_Int, Int.reduceToNat, Int.reduceAdd, Int.reduceMul, Int.reduceSub, Int.reduceNeg, Nat.reduceAdd, Nat.reduceMul, true_and]
  · rw [ht]
    by_cases g1 : n < 1
    · simp (disch := omega) only [Bool.false_eq_true, jz_lit, jz_neg, jz_nat, jz_add, jz_sub, jz_mul, jz_lt, jz_le, jz_eq, jz_ix, jin_z, jz_div, jzw, jwz, jw_lit, jw_neg, jw_add, jw_sub, jw_mul, jw_lt, jw_le, jw_eq, jw_div, Int.toNat_natCast, if_pos, if_neg, if_true, if_false, Option.bind_some, Int.natCast_add, Int.natCast_mul, Int.cast_ofNat_Int, Int.reduceToNat, Int.reduceAdd, Int.reduceMul, Int.reduceSub, Int.reduceNeg, Nat.reduceAdd, Nat.reduceMul, true_and]
    by_cases g2 : 99 < n
    · simp (disch := omega) only [Bool.false_eq_true, jz_lit, jz_neg, jz_nat, jz_add, jz_sub, jz_mul, jz_lt, jz_le, jz_eq, jz_ix, jin_z, jz_div, jzw, jwz, jw_lit, jw_neg, jw_add, jw_sub, jw_mul, jw_lt, jw_le, jw_eq, jw_div, Int.toNat_natCast, if_pos, if_neg, if_true, if_false, Option.bind_some, Int.natCast_add, Int.natCast_mul, Int.cast_ofNat_Int, Int.reduceToNat, Int.reduceAdd, Int.reduceMul, Int.reduceSub, Int.reduceNeg, Nat.reduceAdd, Nat.reduceMul, true_and]
    by_cases g3 : 999 < S 0 1 + n
    · simp (disch := omega) only [Bool.false_eq_true, jz_lit, jz_neg, jz_nat, jz_add, jz_sub, jz_mul, jz_lt, jz_le, jz_eq, jz_ix, jin_z, jz_div, jzw, jwz, jw_lit, jw_neg, jw_add, jw_sub, jw_mul, jw_lt, jw_le, jw_eq, jw_div, Int.toNat_natCast, if_pos, if_neg, if_true, if_false, Option.bind_some, Int.natCast_add, Int.natCast_mul, Int.cast_ofNat_Int, Int.reduceToNat, Int.reduceAdd, Int.reduceMul, Int.reduceSub, Int.reduceNeg, Nat.reduceAdd, Nat.reduceMul, true_and]
    · simp (disch := omega) only [Bool.false_eq_true, jz_lit, jz_neg, jz_nat, jz_add, jz_sub, jz_mul, jz_lt, jz_le, jz_eq, jz_ix, jin_z, jz_div, jzw, jwz, jw_lit, jw_neg, jw_add, jw_sub, jw_mul, jw_lt, jw_le, jw_eq, jw_div, Int.toNat_natCast, if_pos, if_neg, if_true, if_false, Option.bind_some, Int.natCast_add, Int.natCast_mul, Int.cast_ofNat_Int, Int.reduceToNat, Int.reduceAdd, Int.reduceMul, Int.reduceSub, Int.reduceNeg, Nat.reduceAdd, Nat.reduceMul, true_and]
theorem sM_canGo {n : Int} (b : bV g D) (m : mV g D h) (bs : bS g S) (ms : mS S h) (h1 : -2147483648 ≤ n) (h2 : n < 2147483648) : fM_canGo (jz n) h = some (if D 0 10 = 1 ∧ 1 ≤ n ∧ n ≤ 99 ∧ S 0 1 + n ≤ 999 then jz 1 else jz 0) := by
  have mt := m.2.2.1.1
  obtain ⟨a1, a2, -⟩ := bs
  unfold fM_canGo
  rw [mt]
  rcases eTold b with ht | ht
  · rw [ht]; simp (disch := omega) only [Bool.false_eq_true, jz_lit, jz_neg, jz_nat, jz_add, jz_sub, jz_mul, jz_lt, jz_le, jz_eq, jz_ix, jin_z, jz_div, jzw, jwz, jw_lit, jw_neg, jw_add, jw_sub, jw_mul, jw_lt, jw_le, jw_eq, jw_div, Int.toNat_natCast, if_pos, if_neg, if_true, if_false, Option.bind_some, Int.natCast_add, Int.natCast_mul, Int.cast_ofNat_Int, Int.reduceToNat, Int.reduceAdd, Int.reduceMul, Int.reduceSub, Int.reduceNeg, Nat.reduceAdd, Nat.reduceMul, true_and]
  · rw [ht]
    by_cases g1 : 1 ≤ n ∧ n ≤ 99
    · by_cases g3 : 999 < S 0 1 + n
      · simp (disch := omega) only [Bool.false_eq_true, jz_lit, jz_neg, jz_nat, jz_add, jz_sub, jz_mul, jz_lt, jz_le, jz_eq, jz_ix, jin_z, jz_div, jzw, jwz, jw_lit, jw_neg, jw_add, jw_sub, jw_mul, jw_lt, jw_le, jw_eq, jw_div, Int.toNat_natCast, if_pos, if_neg, if_true, if_false, Option.bind_some, Int.natCast_add, Int.natCast_mul, Int.cast_ofNat_Int, Int.reduceToNat, Int.reduceAdd, Int.reduceMul, Int.reduceSub, Int.reduceNeg, Nat.reduceAdd, Nat.reduceMul, sM_isIn, ms.1, true_and]
      · simp (disch := omega) only [Bool.false_eq_true, jz_lit, jz_neg, jz_nat, jz_add, jz_sub, jz_mul, jz_lt, jz_le, jz_eq, jz_ix, jin_z, jz_div, jzw, jwz, jw_lit, jw_neg, jw_add, jw_sub, jw_mul, jw_lt, jw_le, jw_eq, jw_div, Int.toNat_natCast, if_pos, if_neg, if_true, if_false, Option.bind_some, Int.natCast_add, Int.natCast_mul, Int.cast_ofNat_Int, Int.reduceToNat, Int.reduceAdd, Int.reduceMul, Int.reduceSub, Int.reduceNeg, Nat.reduceAdd, Nat.reduceMul, sM_isIn, ms.1, true_and]
    · simp (disch := omega) only [Bool.false_eq_true, jz_lit, jz_neg, jz_nat, jz_add, jz_sub, jz_mul, jz_lt, jz_le, jz_eq, jz_ix, jin_z, jz_div, jzw, jwz, jw_lit, jw_neg, jw_add, jw_sub, jw_mul, jw_lt, jw_le, jw_eq, jw_div, Int.toNat_natCast, if_pos, if_neg, if_true, if_false, Option.bind_some, Int.natCast_add, Int.natCast_mul, Int.cast_ofNat_Int, Int.reduceToNat, Int.reduceAdd, Int.reduceMul, Int.reduceSub, Int.reduceNeg, Nat.reduceAdd, Nat.reduceMul, sM_isIn, true_and]
end EA3
theorem call_26 : jcal_26 jInv := by
  intro p d q h a0 V
  have V0 := V
  obtain ⟨hpd, hq, v1, v2, v3, v4, v5, v6, g, D, S, L, u1, u2, u3⟩ := V
  have u1' := u1
  obtain ⟨b, c, m, w1, w2, w3, w4⟩ := u1'
  obtain ⟨bs, cs, ms⟩ := u2
  obtain ⟨cn, w, K, hc, hw, ac, am, ak⟩ := jPast_to u3
  have hb_n := jz_bd a0
  generalize ha_n : a0.toInt = n at hb_n
  obtain rfl : a0 = jz n := by rw [← ha_n]; exact jz_self a0
  clear ha_n
  by_cases ok : D 0 10 = 1 ∧ 1 ≤ n ∧ n ≤ 99 ∧ S 0 1 + n ≤ 999
  · obtain ⟨q', h1, k1, hq', f1, r1, cs2⟩ := eKeep2 hq hc hw ac cs
    have am2 : mPast cn w K (jhI h1 11 0 (jz (S 0 1 + n))) := mPast_fr (fun o k hk => by unfold ePM at hk; rw [jhI_1, if_neg (by omega), f1.1 _ _ (by unfold ePC; omega)]) am
    have ms2 : mS S (jhI h1 11 0 (jz (S 0 1 + n))) := mS_fr (fun k => by rw [jhI_1, if_neg (by omega), f1.1 _ _ (by unfold ePC; omega)]) ms
    have m2 : mV g D (jhI h1 11 0 (jz (S 0 1 + n))) := mV_fr (fun o k hk => by rw [jhI_1, if_neg (by omega), f1.1 _ _ (by unfold ePC; omega)]) m
    obtain ⟨h3, k3, f3, r3⟩ := sM_keeps hc hw am2 ms2
    have ms3 : mS S h3 := mS_fr (fun k => f3.1 _ _ (by unfold ePM; omega)) ms2
    refine ⟨(jz 1, q', jhI h1 11 0 (jz (S 0 1 + n))), ?_, (jz 1, jhI h3 148 0 (jz (S 0 1 + n))), ?_, rfl, ?_⟩
    · unfold fA_weeks
      rw [sA_canPass b c bs cs hb_n.1 hb_n.2]
      simp (disch := omega) only [Bool.false_eq_true, jz_lit, jz_neg, jz_nat, jz_add, jz_sub, jz_mul, jz_lt, jz_le, jz_eq, jz_ix, jin_z, jz_div, jzw, jwz, jw_lit, jw_neg, jw_add, jw_sub, jw_mul, jw_lt, jw_le, jw_eq, jw_div, Int.toNat_natCast, if_pos, if_neg, if_true, if_false, Option.bind_some, Int.natCast_add, Int.natCast_mul, Int.cast_ofNat_Int, Int.reduceToNat, Int.reduceAdd, Int.reduceMul, Int.reduceSub, Int.reduceNeg, Nat.reduceAdd, Nat.reduceMul, k1, cs2.1]
    · show fM_weeks (jz n) (jhI h1 11 0 (jz (S 0 1 + n))) = _
      generalize jhI h1 11 0 (jz (S 0 1 + n)) = y at *
      unfold fM_weeks
      rw [sM_canGo b m2 bs ms2 hb_n.1 hb_n.2]
      simp (disch := omega) only [Bool.false_eq_true, jz_lit, jz_neg, jz_nat, jz_add, jz_sub, jz_mul, jz_lt, jz_le, jz_eq, jz_ix, jin_z, jz_div, jzw, jwz, jw_lit, jw_neg, jw_add, jw_sub, jw_mul, jw_lt, jw_le, jw_eq, jw_div, Int.toNat_natCast, if_pos, if_neg, if_true, if_false, Option.bind_some, Int.natCast_add, Int.natCast_mul, Int.cast_ofNat_Int, Int.reduceToNat, Int.reduceAdd, Int.reduceMul, Int.reduceSub, Int.reduceNeg, Nat.reduceAdd, Nat.reduceMul, k3, ms3.1]
    · refine eAct (q' := q') (S' := eUp S 0 1 (S 0 1 + n)) hpd hq' v1 v2 v3 v4 v6 u1 (fun o k n => ?_) (fun k => ?_) (iSeed_fr ?_ ?_ v5) ⟨eUp_b0 bs (by omega), cS_fr (fun o k hk => ?_) (cS_up0 (v := S 0 1 + n) cs2), mS_up0 ms3⟩ (jPast_of (c := if cn < 20 then cn + 1 else 20) (w := (w + 1) % 20) (K := eKs S K) (by split <;> omega) (by omega) (cPast_fr hq' (by split <;> omega) (fun o k hk => ?_) r1) (mPast_fr (fun o k hk => ?_) r3) (fun i hi => eKs_b bs ak i hi hc))
      · unfold eActC ePC ePM at n
        rw [jhI_1, if_neg (by omega), f3.1 _ _ (by unfold ePM; omega), jhI_1, if_neg (by omega), f1.1 _ _ (by unfold ePC; omega)]
      · rw [jhI_2, f3.2 _ _ (by unfold ePM; omega), jhI_2, f1.2 _ _ (by unfold ePC; omega)]
      · rw [jhI_1, if_neg (by omega), f3.1 _ _ (by unfold ePM; omega), jhI_1, if_neg (by omega), f1.1 _ _ (by unfold ePC; omega)]
      · rw [jhI_2, f3.2 _ _ (by unfold ePM; omega), jhI_2, f1.2 _ _ (by unfold ePC; omega)]
      · rw [jhI_1, if_neg (by omega), f3.1 _ _ (by unfold ePM; omega)]
      · unfold ePC at hk
        rw [jhI_1, if_neg (by omega), f3.1 _ _ (by unfold ePM; omega), jhI_1, if_neg (by omega)]
      · unfold ePM at hk
        rw [jhI_1, if_neg (by omega)]
  · refine ⟨(jz 0, q, jhI h 97 3 (h.1 97 3 + 1)), ?_, (jz 0, jhI (jhI h 97 3 (h.1 97 3 + 1)) 112 3 (h.1 112 3 + 1)), ?_, rfl, eInv_ref V0 (by omega)⟩
    · have r : fA_refuse (jz 3) h = some (jhI h 97 3 (h.1 97 3 + 1)) := sA_refuse (k := 3) (by omega) h
      generalize jhI h 97 3 (h.1 97 3 + 1) = y at *
      unfold fA_weeks
      rw [sA_canPass b c bs cs hb_n.1 hb_n.2]
      simp (disch := omega) only [Bool.false_eq_true, jz_lit, jz_neg, jz_nat, jz_add, jz_sub, jz_mul, jz_lt, jz_le, jz_eq, jz_ix, jin_z, jz_div, jzw, jwz, jw_lit, jw_neg, jw_add, jw_sub, jw_mul, jw_lt, jw_le, jw_eq, jw_div, Int.toNat_natCast, if_pos, if_neg, if_true, if_false, Option.bind_some, Int.natCast_add, Int.natCast_mul, Int.cast_ofNat_Int, Int.reduceToNat, Int.reduceAdd, Int.reduceMul, Int.reduceSub, Int.reduceNeg, Nat.reduceAdd, Nat.reduceMul, r]
    · have hF : eFr (fun o k => o = 97) h (jhI h 97 3 (h.1 97 3 + 1)) := eFr_I (S := fun o k => o = 97) (eFr_refl _ h) rfl _
      have m1 : mV g D (jhI h 97 3 (h.1 97 3 + 1)) := mV_fr (fun o k hk => hF.1 o k (by omega)) m
      have ms1 : mS S (jhI h 97 3 (h.1 97 3 + 1)) := mS_fr (fun k => hF.1 _ k (by omega)) ms
      have hy : (jhI h 97 3 (h.1 97 3 + 1)).1 112 3 = h.1 112 3 := rfl
      show fM_weeks (jz n) (jhI h 97 3 (h.1 97 3 + 1)) = some (jz 0, jhI (jhI h 97 3 (h.1 97 3 + 1)) 112 3 (h.1 112 3 + 1))
      generalize jhI h 97 3 (h.1 97 3 + 1) = y at *
      unfold fM_weeks
      rw [sM_canGo b m1 bs ms1 hb_n.1 hb_n.2]
      simp (disch := omega) only [Bool.false_eq_true, jz_lit, jz_neg, jz_nat, jz_add, jz_sub, jz_mul, jz_lt, jz_le, jz_eq, jz_ix, jin_z, jz_div, jzw, jwz, jw_lit, jw_neg, jw_add, jw_sub, jw_mul, jw_lt, jw_le, jw_eq, jw_div, Int.toNat_natCast, if_pos, if_neg, if_true, if_false, Option.bind_some, Int.natCast_add, Int.natCast_mul, Int.cast_ofNat_Int, Int.reduceToNat, Int.reduceAdd, Int.reduceMul, Int.reduceSub, Int.reduceNeg, Nat.reduceAdd, Nat.reduceMul, hy]
