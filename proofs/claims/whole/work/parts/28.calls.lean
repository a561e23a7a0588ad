/-! Queries: frames; SEEN, SAFE as calls -/
def eQC (o _k : Nat) : Prop := o = 10 ∨ (80 ≤ o ∧ o ≤ 83) ∨ o = 95 ∨ o = 109 ∨ o = 96
def eQM (o k : Nat) : Prop := (149 ≤ o ∧ o ≤ 151) ∨ o = 175 ∨ (o = 110 ∧ (k = 49 ∨ k = 53 ∨ k = 86))
theorem eQC_S0 {d o k : Nat} (h : eQC o k) : jS0 d o k := by
  unfold eQC at h
  rcases h with rfl | h | rfl | rfl | rfl
  · simp [jS0]
  · simp [jS0, h]
  · simp [jS0]
  · simp [jS0]
  · simp [jS0]
theorem eQM_S0 {d o k : Nat} (h : eQM o k) : jS0 d o k := by
  unfold eQM at h
  rcases h with h | rfl | ⟨rfl, rfl | rfl | rfl⟩
  · simp [jS0, h]
  · simp [jS0]
  · simp [jS0]
  · simp [jS0]
  · simp [jS0]
theorem jInv_q {p d : Nat} {q : Nat → Nat} {h h1 h2 : jH} (V : jInv p d q h) (a : eFr eQC h h1) (b : eFr eQM h1 h2) : jInv p d q h2 :=
  jInv_fr V (eFr_trans (eFr_mono a (fun _ _ => eQC_S0)) (eFr_mono b (fun _ _ => eQM_S0)))
section EQ
variable {p d g : Nat} {D S : jD} {L : List Int} {h h' : jH}
theorem eQC_c (hpd : iPD p d) (a : eFr eQC h h') (c : cV p g D h) : cV p g D h' := cV_fr (fun o k hk => a.1 o k (by unfold eQC; unfold iPD at hpd; omega)) c
theorem eQC_s (a : eFr eQC h h') (c : cS 11 S h) : cS 11 S h' := cS_fr (fun o k hk => a.1 o k (by unfold eQC; omega)) c
theorem eQC_m (a : eFr eQC h h') (m : mV g D h) : mV g D h' := mV_fr (fun o k hk => a.1 o k (by unfold eQC; omega)) m
theorem eQC_ms (a : eFr eQC h h') (m : mS S h) : mS S h' := mS_fr (fun k => a.1 _ k (by unfold eQC; omega)) m
theorem eQC_l (hpd : iPD p d) (a : eFr eQC h h') (c : jLt p L h) : jLt p L h' := jLt_fr (fun o k hk => a.1 o k (by unfold eQC; unfold iPD at hpd; omega)) c
theorem eQM_c (hpd : iPD p d) (a : eFr eQM h h') (c : cV p g D h) : cV p g D h' := cV_fr (fun o k hk => a.1 o k (by unfold eQM; unfold iPD at hpd; omega)) c
theorem eQM_m (a : eFr eQM h h') (m : mV g D h) : mV g D h' := mV_fr (fun o k hk => a.1 o k (by unfold eQM; omega)) m
theorem eQM_ms (a : eFr eQM h h') (m : mS S h) : mS S h' := mS_fr (fun k => a.1 _ k (by unfold eQM; omega)) m
theorem eQM_l (hpd : iPD p d) (a : eFr eQM h h') (c : jLt p L h) : jLt p L h' := jLt_fr (fun o k hk => a.1 o k (by unfold eQM; unfold iPD at hpd; omega)) c
end EQ
theorem eTold {g : Nat} {D : jD} (b : bV g D) : D 0 10 = 0 ∨ D 0 10 = 1 := b.2.2.1.1
theorem call_23 : jcal_23 jInv := by
  intro p d q h a0 a1 a2 V
  have V0 := V
  have hok := jInv_ok V
  obtain ⟨hpd, hq, v1, v2, v3, v4, v5, v6, g, D, S, L, ⟨b, c, m, w1, w2, w3, w4⟩, ⟨bs, cs, ms⟩, -⟩ := V
  have hb_a := jz_bd a0
  generalize ha_a : a0.toInt = a at hb_a
  obtain rfl : a0 = jz a := by rw [← ha_a]; exact jz_self a0
  clear ha_a
  have hb_c1 := jz_bd a1
  generalize ha_c1 : a1.toInt = c1 at hb_c1
  obtain rfl : a1 = jz c1 := by rw [← ha_c1]; exact jz_self a1
  clear ha_c1
  have hb_w := jz_bd a2
  generalize ha_w : a2.toInt = w at hb_w
  obtain rfl : a2 = jz w := by rw [← ha_w]; exact jz_self a2
  clear ha_w
  have ct := c.2.2.1.1
  have mt := m.2.2.1.1
  rcases eTold b with ht | ht
  · refine ⟨jz (-1), ?_, jz (-1), ?_, rfl, V0⟩
    · unfold fA_seen; rw [ct, ht]; simp (disch := omega) only [Bool.false_eq_true, jz_lit, jz_neg, jz_nat, jz_add, jz_sub, jz_mul, jz_lt, jz_le, jz_eq, jz_ix, jin_z, jz_div, jzw, jwz, jw_lit, jw_neg, jw_add, jw_sub, jw_mul, jw_lt, jw_le, jw_eq, jw_div, Int.toNat_natCast, if_pos, if_neg, if_true, if_false, Option.bind_some, Int.natCast_add, Int.natCast_mul, Int.cast_ofNat_Int, Int.reduceToNat, Int.reduceAdd, Int.reduceMul, Int.reduceSub, Int.reduceNeg, Nat.reduceAdd, Nat.reduceMul]
    · unfold fM_seen; rw [mt, ht]; simp (disch := omega) only [Bool.false_eq_true, jz_lit, jz_neg, jz_nat, jz_add, jz_sub, jz_mul, jz_lt, jz_le, jz_eq, jz_ix, jin_z, jz_div, jzw, jwz, jw_lit, jw_neg, jw_add, jw_sub, jw_mul, jw_lt, jw_le, jw_eq, jw_div, Int.toNat_natCast, if_pos, if_neg, if_true, if_false, Option.bind_some, Int.natCast_add, Int.natCast_mul, Int.cast_ofNat_Int, Int.reduceToNat, Int.reduceAdd, Int.reduceMul, Int.reduceSub, Int.reduceNeg, Nat.reduceAdd, Nat.reduceMul]
  by_cases ga : 0 ≤ a ∧ a ≤ 32
  · by_cases gc : 0 ≤ c1 ∧ c1 ≤ 792
    · have hl := sM_seenloop b m (a := a) (c := c1) (by omega) (by omega) (jz w)
      have hA := sM_allGuests b m
      have hs1 := sPn_seenCount b c hok.1 (a := a) (c := c1) (by omega) (by omega)
      have hs2 := sPn_seenInAll b c hok.1 (a := a) (c := c1) (by omega) (by omega)
      have hs3 := sPn_seenInSome b c hok.1 (a := a) (c := c1) (by omega) (by omega)
      have hN := two8 b.1
      have hle := eN_le (eSeen D g a c1) (2 ^ g)
      rw [show ((0 : Int32), jz (((2 ^ g : Nat) : Int) - 1), (0 : Int32), (0 : Int32)) = (jz 0, jz (((2 ^ g : Nat) : Int) - 1), jz 0, jz 0) from rfl] at hl
      by_cases e0 : w = 0
      · subst e0
        refine ⟨jz (eN (eSeen D g a c1) (2 ^ g)), ?_, jz (eN (eSeen D g a c1) (2 ^ g)), ?_, rfl, V0⟩
        · unfold fA_seen; rw [ct, ht]; simp (disch := omega) only [Bool.false_eq_true, jz_lit, jz_neg, jz_nat, jz_add, jz_sub, jz_mul, jz_lt, jz_le, jz_eq, jz_ix, jin_z, jz_div, jzw, jwz, jw_lit, jw_neg, jw_add, jw_sub, jw_mul, jw_lt, jw_le, jw_eq, jw_div, Int.toNat_natCast, if_pos, if_neg, if_true, if_false, Option.bind_some, Int.natCast_add, Int.natCast_mul, Int.cast_ofNat_Int, Int.reduceToNat, Int.reduceAdd, Int.reduceMul, Int.reduceSub, Int.reduceNeg, Nat.reduceAdd, Nat.reduceMul, hs1]
        · unfold fM_seen; rw [mt, ht]; simp (disch := omega) only [Bool.false_eq_true, jz_lit, jz_neg, jz_nat, jz_add, jz_sub, jz_mul, jz_lt, jz_le, jz_eq, jz_ix, jin_z, jz_div, jzw, jwz, jw_lit, jw_neg, jw_add, jw_sub, jw_mul, jw_lt, jw_le, jw_eq, jw_div, Int.toNat_natCast, if_pos, if_neg, if_true, if_false, Option.bind_some, Int.natCast_add, Int.natCast_mul, Int.cast_ofNat_Int, Int.reduceToNat, Int.reduceAdd, Int.reduceMul, Int.reduceSub, Int.reduceNeg, Nat.reduceAdd, Nat.reduceMul, sM_isIn, hA, hl]
      by_cases e1 : w = 1
      · subst e1
        refine ⟨if eN (eSeen D g a c1) (2 ^ g) = 0 then jz 0 else jz (eAl (eSeen D g a c1) (2 ^ g - 1) (2 ^ g)), ?_, if eN (eSeen D g a c1) (2 ^ g) = 0 then jz 0 else jz (eAl (eSeen D g a c1) (2 ^ g - 1) (2 ^ g)), ?_, rfl, V0⟩
        · unfold fA_seen; rw [ct, ht]; simp (disch := omega) only [Bool.false_eq_true, jz_lit, jz_neg, jz_nat, jz_add, jz_sub, jz_mul, jz_lt, jz_le, jz_eq, jz_ix, jin_z, jz_div, jzw, jwz, jw_lit, jw_neg, jw_add, jw_sub, jw_mul, jw_lt, jw_le, jw_eq, jw_div, Int.toNat_natCast, if_pos, if_neg, if_true, if_false, Option.bind_some, Int.natCast_add, Int.natCast_mul, Int.cast_ofNat_Int, Int.reduceToNat, Int.reduceAdd, Int.reduceMul, Int.reduceSub, Int.reduceNeg, Nat.reduceAdd, Nat.reduceMul, hs2]
        · unfold fM_seen; rw [mt, ht]
          by_cases e : eN (eSeen D g a c1) (2 ^ g) = 0
          · simp (disch := omega) only [Bool.false_eq_true, jz_lit, jz_neg, jz_nat, jz_add, jz_sub, jz_mul, jz_lt, jz_le, jz_eq, jz_ix, jin_z, jz_div, jzw, jwz, jw_lit, jw_neg, jw_add, jw_sub, jw_mul, jw_lt, jw_le, jw_eq, jw_div, Int.toNat_natCast, if_pos, if_neg, if_true, if_false, Option.bind_some, Int.natCast_add, Int.natCast_mul, Int.cast_ofNat_Int, Int.reduceToNat, Int.reduceAdd, Int.reduceMul, Int.reduceSub, Int.reduceNeg, Nat.reduceAdd, Nat.reduceMul, sM_isIn, hA, hl, e]
            first | done | simp
          · simp (disch := omega) only [Bool.false_eq_true, jz_lit, jz_neg, jz_nat, jz_add, jz_sub, jz_mul, jz_lt, jz_le, jz_eq, jz_ix, jin_z, jz_div, jzw, jwz, jw_lit, jw_neg, jw_add, jw_sub, jw_mul, jw_lt, jw_le, jw_eq, jw_div, Int.toNat_natCast, if_pos, if_neg, if_true, if_false, Option.bind_some, Int.natCast_add, Int.natCast_mul, Int.cast_ofNat_Int, Int.reduceToNat, Int.reduceAdd, Int.reduceMul, Int.reduceSub, Int.reduceNeg, Nat.reduceAdd, Nat.reduceMul, sM_isIn, hA, hl]
      by_cases e2 : w = 2
      · subst e2
        refine ⟨jz (eOr (eSeen D g a c1) (2 ^ g)), ?_, jz (eOr (eSeen D g a c1) (2 ^ g)), ?_, rfl, V0⟩
        · unfold fA_seen; rw [ct, ht]; simp (disch := omega) only [Bool.false_eq_true, jz_lit, jz_neg, jz_nat, jz_add, jz_sub, jz_mul, jz_lt, jz_le, jz_eq, jz_ix, jin_z, jz_div, jzw, jwz, jw_lit, jw_neg, jw_add, jw_sub, jw_mul, jw_lt, jw_le, jw_eq, jw_div, Int.toNat_natCast, if_pos, if_neg, if_true, if_false, Option.bind_some, Int.natCast_add, Int.natCast_mul, Int.cast_ofNat_Int, Int.reduceToNat, Int.reduceAdd, Int.reduceMul, Int.reduceSub, Int.reduceNeg, Nat.reduceAdd, Nat.reduceMul, hs3]
        · unfold fM_seen; rw [mt, ht]; simp (disch := omega) only [Bool.false_eq_true, jz_lit, jz_neg, jz_nat, jz_add, jz_sub, jz_mul, jz_lt, jz_le, jz_eq, jz_ix, jin_z, jz_div, jzw, jwz, jw_lit, jw_neg, jw_add, jw_sub, jw_mul, jw_lt, jw_le, jw_eq, jw_div, Int.toNat_natCast, if_pos, if_neg, if_true, if_false, Option.bind_some, Int.natCast_add, Int.natCast_mul, Int.cast_ofNat_Int, Int.reduceToNat, Int.reduceAdd, Int.reduceMul, Int.reduceSub, Int.reduceNeg, Nat.reduceAdd, Nat.reduceMul, sM_isIn, hA, hl]
      · refine ⟨jz (-1), ?_, jz (-1), ?_, rfl, V0⟩
        · unfold fA_seen; rw [ct, ht]; simp (disch := omega) only [Bool.false_eq_true, jz_lit, jz_neg, jz_nat, jz_add, jz_sub, jz_mul, jz_lt, jz_le, jz_eq, jz_ix, jin_z, jz_div, jzw, jwz, jw_lit, jw_neg, jw_add, jw_sub, jw_mul, jw_lt, jw_le, jw_eq, jw_div, Int.toNat_natCast, if_pos, if_neg, if_true, if_false, Option.bind_some, Int.natCast_add, Int.natCast_mul, Int.cast_ofNat_Int, Int.reduceToNat, Int.reduceAdd, Int.reduceMul, Int.reduceSub, Int.reduceNeg, Nat.reduceAdd, Nat.reduceMul]
        · unfold fM_seen; rw [mt, ht]; simp (disch := omega) only [Bool.false_eq_true, jz_lit, jz_neg, jz_nat, jz_add, jz_sub, jz_mul, jz_lt, jz_le, jz_eq, jz_ix, jin_z, jz_div, jzw, jwz, jw_lit, jw_neg, jw_add, jw_sub, jw_mul, jw_lt, jw_le, jw_eq, jw_div, Int.toNat_natCast, if_pos, if_neg, if_true, if_false, Option.bind_some, Int.natCast_add, Int.natCast_mul, Int.cast_ofNat_Int, Int.reduceToNat, Int.reduceAdd, Int.reduceMul, Int.reduceSub, Int.reduceNeg, Nat.reduceAdd, Nat.reduceMul, sM_isIn]
    · refine ⟨jz (-1), ?_, jz (-1), ?_, rfl, V0⟩
      · unfold fA_seen; rw [ct, ht]
        by_cases e : c1 < 0
        · simp (disch := omega) only [Bool.false_eq_true, jz_lit, jz_neg, jz_nat, jz_add, jz_sub, jz_mul, jz_lt, jz_le, jz_eq, jz_ix, jin_z, jz_div, jzw, jwz, jw_lit, jw_neg, jw_add, jw_sub, jw_mul, jw_lt, jw_le, jw_eq, jw_div, Int.toNat_natCast, if_pos, if_neg, if_true, if_false, Option.bind_some, Int.natCast_add, Int.natCast_mul, Int.cast_ofNat_Int, Int.reduceToNat, Int.reduceAdd, Int.reduceMul, Int.reduceSub, Int.reduceNeg, Nat.reduceAdd, Nat.reduceMul]
        · simp (disch := omega) only [Bool.false_eq_true, jz_lit, jz_neg, jz_nat, jz_add, jz_sub, jz_mul, jz_lt, jz_le, jz_eq, jz_ix, jin_z, jz_div, jzw, jwz, jw_lit, jw_neg, jw_add, jw_sub, jw_mul, jw_lt, jw_le, jw_eq, jw_div, Int.toNat_natCast, if_pos, if_neg, if_true, if_false, Option.bind_some, Int.natCast_add, Int.natCast_mul, Int.cast_ofNat_Int, Int.reduceToNat, Int.reduceAdd, Int.reduceMul, Int.reduceSub, Int.reduceNeg, Nat.reduceAdd, Nat.reduceMul]
      · unfold fM_seen; rw [mt, ht]; simp (disch := omega) only [Bool.false_eq_true, jz_lit, jz_neg, jz_nat, jz_add, jz_sub, jz_mul, jz_lt, jz_le, jz_eq, jz_ix, jin_z, jz_div, jzw, jwz, jw_lit, jw_neg, jw_add, jw_sub, jw_mul, jw_lt, jw_le, jw_eq, jw_div, Int.toNat_natCast, if_pos, if_neg, if_true, if_false, Option.bind_some, Int.natCast_add, Int.natCast_mul, Int.cast_ofNat_Int, Int.reduceToNat, Int.reduceAdd, Int.reduceMul, Int.reduceSub, Int.reduceNeg, Nat.reduceAdd, Nat.reduceMul, sM_isIn]
  · refine ⟨jz (-1), ?_, jz (-1), ?_, rfl, V0⟩
    · unfold fA_seen; rw [ct, ht]
      by_cases e : a < 0
      · simp (disch := omega) only [Bool.false_eq_true, jz_lit, jz_neg, jz_nat, jz_add, jz_sub, jz_mul, jz_lt, jz_le, jz_eq, jz_ix, jin_z, jz_div, jzw, jwz, jw_lit, jw_neg, jw_add, jw_sub, jw_mul, jw_lt, jw_le, jw_eq, jw_div, Int.toNat_natCast, if_pos, if_neg, if_true, if_false, Option.bind_some, Int.natCast_add, Int.natCast_mul, Int.cast_ofNat_Int, Int.reduceToNat, Int.reduceAdd, Int.reduceMul, Int.reduceSub, Int.reduceNeg, Nat.reduceAdd, Nat.reduceMul]
      · simp (disch := omega) only [Bool.false_eq_true, jz_lit, jz_neg, jz_nat, jz_add, jz_sub, jz_mul, jz_lt, jz_le, jz_eq, jz_ix, jin_z, jz_div, jzw, jwz, jw_lit, jw_neg, jw_add, jw_sub, jw_mul, jw_lt, jw_le, jw_eq, jw_div, Int.toNat_natCast, if_pos, if_neg, if_true, if_false, Option.bind_some, Int.natCast_add, Int.natCast_mul, Int.cast_ofNat_Int, Int.reduceToNat, Int.reduceAdd, Int.reduceMul, Int.reduceSub, Int.reduceNeg, Nat.reduceAdd, Nat.reduceMul]
    · unfold fM_seen; rw [mt, ht]; simp (disch := omega) only [Bool.false_eq_true, jz_lit, jz_neg, jz_nat, jz_add, jz_sub, jz_mul, jz_lt, jz_le, jz_eq, jz_ix, jin_z, jz_div, jzw, jwz, jw_lit, jw_neg, jw_add, jw_sub, jw_mul, jw_lt, jw_le, jw_eq, jw_div, Int.toNat_natCast, if_pos, if_neg, if_true, if_false, Option.bind_some, Int.natCast_add, Int.natCast_mul, Int.cast_ofNat_Int, Int.reduceToNat, Int.reduceAdd, Int.reduceMul, Int.reduceSub, Int.reduceNeg, Nat.reduceAdd, Nat.reduceMul, sM_isIn]
theorem call_16 : jcal_16 jInv := by
  intro p d q h a0 V
  have V0 := V
  have hok := jInv_ok V
  obtain ⟨hpd, hq, v1, v2, v3, v4, v5, v6, g, D, S, L, ⟨b, c, m, w1, w2, w3, w4⟩, ⟨bs, cs, ms⟩, -⟩ := V
  have hb_a := jz_bd a0
  generalize ha_a : a0.toInt = a at hb_a
  obtain rfl : a0 = jz a := by rw [← ha_a]; exact jz_self a0
  clear ha_a
  have ct := c.2.2.1.1
  have mt := m.2.2.1.1
  rcases eTold b with ht | ht
  · refine ⟨(jz (-1), h), ?_, jz (-1), ?_, rfl, V0⟩
    · unfold fA_safe; rw [ct, ht]; simp (disch := omega) only [Bool.false_eq_true, jz_lit, jz_neg, jz_nat, jz_add, jz_sub, jz_mul, jz_lt, jz_le, jz_eq, jz_ix, jin_z, jz_div, jzw, jwz, jw_lit, jw_neg, jw_add, jw_sub, jw_mul, jw_lt, jw_le, jw_eq, jw_div, Int.toNat_natCast, if_pos, if_neg, if_true, if_false, Option.bind_some, Int.natCast_add, Int.natCast_mul, Int.cast_ofNat_Int, Int.reduceToNat, Int.reduceAdd, Int.reduceMul, Int.reduceSub, Int.reduceNeg, Nat.reduceAdd, Nat.reduceMul]
    · unfold fM_safe; show (if h.1 110 48 = 0 then _ else _) = _; rw [mt, ht]; simp (disch := omega) only [Bool.false_eq_true, jz_lit, jz_neg, jz_nat, jz_add, jz_sub, jz_mul, jz_lt, jz_le, jz_eq, jz_ix, jin_z, jz_div, jzw, jwz, jw_lit, jw_neg, jw_add, jw_sub, jw_mul, jw_lt, jw_le, jw_eq, jw_div, Int.toNat_natCast, if_pos, if_neg, if_true, if_false, Option.bind_some, Int.natCast_add, Int.natCast_mul, Int.cast_ofNat_Int, Int.reduceToNat, Int.reduceAdd, Int.reduceMul, Int.reduceSub, Int.reduceNeg, Nat.reduceAdd, Nat.reduceMul]
  by_cases ga : 0 ≤ a ∧ a ≤ 2
  · obtain ⟨h1, e1, f1, r1, r2, r3⟩ := sCh_findSafe b c (by unfold iPD at hpd; omega) hok.1
    have f2 : eFr eQC h h1 := eFr_mono f1 (fun o k hk => by unfold eQC; omega)
    have m1 := eQC_m f2 m
    have V1 : jInv p d q h1 := jInv_q V0 f2 (eFr_refl _ _)
    have hl := sM_safeloop b m1 (jz a)
    rw [show ((0 : Int32), (1 : Int32)) = (jz 0, jz 1) from rfl] at hl
    have mt1 := m1.2.2.1.1
    have hN := two8 b.1
    have hN1 : 1 ≤ 2 ^ g := Nat.one_le_two_pow
    have hle : eSafe D g (2 ^ g) ≤ 2 ^ g := eSafe_lt
    have hlt : eSafe D g (2 ^ g) < 256 := by
      have : eSafe D g (2 ^ g) ≤ 2 ^ g - 1 := by
        obtain ⟨n, hn⟩ : ∃ n, 2 ^ g = n + 1 := ⟨2 ^ g - 1, by omega⟩
        rw [hn]
        unfold eSafe
        have : eSafe D g n ≤ n := eSafe_lt
        split <;> omega
      omega
    have s1 := sM_slights b m1 hlt
    have s2 := sM_joyBy b m1 hlt
    by_cases e0 : a = 0
    · subst e0
      refine ⟨(jz (eSafe D g (2 ^ g)), h1), ?_, jz (eSafe D g (2 ^ g)), ?_, rfl, V1⟩
      · unfold fA_safe fCh_safeSet; rw [ct, ht]; simp (disch := omega) only [Bool.false_eq_true, jz_lit, jz_neg, jz_nat, jz_add, jz_sub, jz_mul, jz_lt, jz_le, jz_eq, jz_ix, jin_z, jz_div, jzw, jwz, jw_lit, jw_neg, jw_add, jw_sub, jw_mul, jw_lt, jw_le, jw_eq, jw_div, Int.toNat_natCast, if_pos, if_neg, if_true, if_false, Option.bind_some, Int.natCast_add, Int.natCast_mul, Int.cast_ofNat_Int, Int.reduceToNat, Int.reduceAdd, Int.reduceMul, Int.reduceSub, Int.reduceNeg, Nat.reduceAdd, Nat.reduceMul, e1, r1]
      · unfold fM_safe; show (if h1.1 110 48 = 0 then _ else _) = _; rw [mt1, ht]; simp (disch := omega) only [Bool.false_eq_true, jz_lit, jz_neg, jz_nat, jz_add, jz_sub, jz_mul, jz_lt, jz_le, jz_eq, jz_ix, jin_z, jz_div, jzw, jwz, jw_lit, jw_neg, jw_add, jw_sub, jw_mul, jw_lt, jw_le, jw_eq, jw_div, Int.toNat_natCast, if_pos, if_neg, if_true, if_false, Option.bind_some, Int.natCast_add, Int.natCast_mul, Int.cast_ofNat_Int, Int.reduceToNat, Int.reduceAdd, Int.reduceMul, Int.reduceSub, Int.reduceNeg, Nat.reduceAdd, Nat.reduceMul, sM_isIn, hl]
    by_cases e2 : a = 1
    · subst e2
      refine ⟨(jz (eSum (eSli D (eSafe D g (2 ^ g))) g), h1), ?_, jz (eSum (eSli D (eSafe D g (2 ^ g))) g), ?_, rfl, V1⟩
      · unfold fA_safe fCh_safeOffence; rw [ct, ht]; simp (disch := omega) only [Bool.false_eq_true, jz_lit, jz_neg, jz_nat, jz_add, jz_sub, jz_mul, jz_lt, jz_le, jz_eq, jz_ix, jin_z, jz_div, jzw, jwz, jw_lit, jw_neg, jw_add, jw_sub, jw_mul, jw_lt, jw_le, jw_eq, jw_div, Int.toNat_natCast, if_pos, if_neg, if_true, if_false, Option.bind_some, Int.natCast_add, Int.natCast_mul, Int.cast_ofNat_Int, Int.reduceToNat, Int.reduceAdd, Int.reduceMul, Int.reduceSub, Int.reduceNeg, Nat.reduceAdd, Nat.reduceMul, e1, r2]
      · unfold fM_safe; show (if h1.1 110 48 = 0 then _ else _) = _; rw [mt1, ht]; simp (disch := omega) only [Bool.false_eq_true, jz_lit, jz_neg, jz_nat, jz_add, jz_sub, jz_mul, jz_lt, jz_le, jz_eq, jz_ix, jin_z, jz_div, jzw, jwz, jw_lit, jw_neg, jw_add, jw_sub, jw_mul, jw_lt, jw_le, jw_eq, jw_div, Int.toNat_natCast, if_pos, if_neg, if_true, if_false, Option.bind_some, Int.natCast_add, Int.natCast_mul, Int.cast_ofNat_Int, Int.reduceToNat, Int.reduceAdd, Int.reduceMul, Int.reduceSub, Int.reduceNeg, Nat.reduceAdd, Nat.reduceMul, sM_isIn, hl, s1]
    · refine ⟨(jz (eOver (D 4) (eSafe D g (2 ^ g)) g), h1), ?_, jz (eOver (D 4) (eSafe D g (2 ^ g)) g), ?_, rfl, V1⟩
      · unfold fA_safe fCh_safeJoy; rw [ct, ht]; simp (disch := omega) only [Bool.false_eq_true, jz_lit, jz_neg, jz_nat, jz_add, jz_sub, jz_mul, jz_lt, jz_le, jz_eq, jz_ix, jin_z, jz_div, jzw, jwz, jw_lit, jw_neg, jw_add, jw_sub, jw_mul, jw_lt, jw_le, jw_eq, jw_div, Int.toNat_natCast, if_pos, if_neg, if_true, if_false, Option.bind_some, Int.natCast_add, Int.natCast_mul, Int.cast_ofNat_Int, Int.reduceToNat, Int.reduceAdd, Int.reduceMul, Int.reduceSub, Int.reduceNeg, Nat.reduceAdd, Nat.reduceMul, e1, r3]
      · unfold fM_safe; show (if h1.1 110 48 = 0 then _ else _) = _; rw [mt1, ht]; simp (disch := omega) only [Bool.false_eq_true, jz_lit, jz_neg, jz_nat, jz_add, jz_sub, jz_mul, jz_lt, jz_le, jz_eq, jz_ix, jin_z, jz_div, jzw, jwz, jw_lit, jw_neg, jw_add, jw_sub, jw_mul, jw_lt, jw_le, jw_eq, jw_div, Int.toNat_natCast, if_pos, if_neg, if_true, if_false, Option.bind_some, Int.natCast_add, Int.natCast_mul, Int.cast_ofNat_Int, Int.reduceToNat, Int.reduceAdd, Int.reduceMul, Int.reduceSub, Int.reduceNeg, Nat.reduceAdd, Nat.reduceMul, sM_isIn, hl, s2]
  · refine ⟨(jz (-1), h), ?_, jz (-1), ?_, rfl, V0⟩
    · unfold fA_safe; rw [ct, ht]
      by_cases e : a < 0
      · simp (disch := omega) only [Bool.false_eq_true, jz_lit, jz_neg, jz_nat, jz_add, jz_sub, jz_mul, jz_lt, jz_le, jz_eq, jz_ix, jin_z, jz_div, jzw, jwz, jw_lit, jw_neg, jw_add, jw_sub, jw_mul, jw_lt, jw_le, jw_eq, jw_div, Int.toNat_natCast, if_pos, if_neg, if_true, if_false, Option.bind_some, Int.natCast_add, Int.natCast_mul, Int.cast_ofNat_Int, Int.reduceToNat, Int.reduceAdd, Int.reduceMul, Int.reduceSub, Int.reduceNeg, Nat.reduceAdd, Nat.reduceMul]
      · simp (disch := omega) only [Bool.false_eq_true, jz_lit, jz_neg, jz_nat, jz_add, jz_sub, jz_mul, jz_lt, jz_le, jz_eq, jz_ix, jin_z, jz_div, jzw, jwz, jw_lit, jw_neg, jw_add, jw_sub, jw_mul, jw_lt, jw_le, jw_eq, jw_div, Int.toNat_natCast, if_pos, if_neg, if_true, if_false, Option.bind_some, Int.natCast_add, Int.natCast_mul, Int.cast_ofNat_Int, Int.reduceToNat, Int.reduceAdd, Int.reduceMul, Int.reduceSub, Int.reduceNeg, Nat.reduceAdd, Nat.reduceMul]
    · unfold fM_safe; show (if h.1 110 48 = 0 then _ else _) = _; rw [mt, ht]; simp (disch := omega) only [Bool.false_eq_true, jz_lit, jz_neg, jz_nat, jz_add, jz_sub, jz_mul, jz_lt, jz_le, jz_eq, jz_ix, jin_z, jz_div, jzw, jwz, jw_lit, jw_neg, jw_add, jw_sub, jw_mul, jw_lt, jw_le, jw_eq, jw_div, Int.toNat_natCast, if_pos, if_neg, if_true, if_false, Option.bind_some, Int.natCast_add, Int.natCast_mul, Int.cast_ofNat_Int, Int.reduceToNat, Int.reduceAdd, Int.reduceMul, Int.reduceSub, Int.reduceNeg, Nat.reduceAdd, Nat.reduceMul, sM_isIn]
