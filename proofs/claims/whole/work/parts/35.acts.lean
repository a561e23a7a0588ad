/-! Acts: cards, answers, weeks -/
def eSend (S : jD) (s : Nat) : jD := fun a b => if a = 0 ∧ b = 2 then (if S 0 2 = -1 then S 0 1 else S 0 2) else if a = 1 ∧ s.testBit b = true then 1 else if a = 2 ∧ s.testBit b = true then (if S 0 2 = -1 then 0 else S 0 1 - S 0 2) else S a b
def eCan (D S : jD) (g s : Nat) : Bool := decide (s &&& eAsk S g = 0) && eWhole D g s (eAsk S g)
def eActC (o k : Nat) : Prop := (11 ≤ o ∧ o ≤ 13) ∨ ePC o k ∨ o = 148 ∨ ePM o k ∨ (o = 1 ∧ k = 13) ∨ (o = 110 ∧ k = 58)
section EA
variable {p d g : Nat} {D S : jD} {h : jH} {q : Nat → Nat} {L : List Int}
theorem eAct {q' : Nat → Nat} {y : jH} {S' : jD} (hpd : iPD p d) (hq' : jq0 q') (v1 : eWd h) (v2 : iTape h) (v3 : iFault h) (v4 : iRef h) (v6 : iPic h) (u1 : iPlan p g D L h) (F1 : ∀ o k, ¬ eActC o k → y.1 o k = h.1 o k) (F2 : ∀ k, y.2 139 k = h.2 139 k) (v5 : iSeed y) (hst : iStand g S' y) (hpa : jPast q' g y) : jInv p d q' y := by
  have hpd2 := hpd
  unfold iPD at hpd2
  refine ⟨hpd, hq', eWd_fr (fun o k hk => F1 _ _ ?_) v1, iTape_fr (fun o k hk => F1 _ _ ?_) v2, iFault_fr (fun o k hk => F1 _ _ ?_) v3, iRef_fr (fun o k hk => F1 _ _ ?_) v4, v5, iPic_fr (fun o k hk => F1 _ _ ?_) v6, g, D, S', L, iPlan_fr (fun o k hk => F1 _ _ ?_) (fun k hk => F2 _) u1, hst, hpa⟩
  all_goals (unfold eActC ePC ePM; omega)
theorem sPy_canAsk {s : Nat} (b : bV g D) (c : cV p g D h) (bs : bS g S) (cs : cS 11 S h) (hs : s < 2 ^ g) : fPy_canAsk p (jz s) h = some (if eCan D S g s then jz 1 else jz 0) := by
  have hN := two8 b.1
  have ha : eAsk S g < 256 := eAsk_lt b.1
  have hA := sPn_allSets b c
  have hle : s &&& eAsk S g ≤ s := Nat.and_le_left
  unfold fPy_canAsk eCan
  rw [sSd_ask b bs cs]
  generalize 2 ^ g = N at *
  by_cases e : s &&& eAsk S g = 0
  · cases e2 : eWhole D g s (eAsk S g) with
    | true => simp (disch := omega) only [Bool.false_eq_true, jz_lit, jz_neg, jz_nat, jz_add, jz_sub, jz_mul, jz_lt, jz_le, jz_eq, jz_ix, jin_z, jz_div, jzw, jwz, jw_lit, jw_neg, jw_add, jw_sub, jw_mul, jw_lt, jw_le, jw_eq, jw_div, Int.toNat_natCast, if_pos, if_neg, if_true, if_false, Option.bind_some, Int.natCast_add, Int.natCast_mul, Int.cast_ofNat_Int, Int.reduceToNat, Int.reduceAdd, Int.reduceMul, Int.reduceSub, Int.reduceNeg, Nat.reduceAdd, Nat.reduceMul, hA, jbit_and, e, sPy_isWhole b c (show s < 256 by omega) ha, e2, decide_true, Bool.and_self]
              first | done | simp
    | false => simp (disch := omega) only [Bool.false_eq_true, jz_lit, jz_neg, jz_nat, jz_add, jz_sub, jz_mul, jz_lt, jz_le, jz_eq, jz_ix, jin_z, jz_div, jzw, jwz, jw_lit, jw_neg, jw_add, jw_sub, jw_mul, jw_lt, jw_le, jw_eq, jw_div, Int.toNat_natCast, if_pos, if_neg, if_true, if_false, Option.bind_some, Int.natCast_add, Int.natCast_mul, Int.cast_ofNat_Int, Int.reduceToNat, Int.reduceAdd, Int.reduceMul, Int.reduceSub, Int.reduceNeg, Nat.reduceAdd, Nat.reduceMul, hA, jbit_and, e, sPy_isWhole b c (show s < 256 by omega) ha, e2, Bool.and_false]
               first | done | simp
  · simp (disch := omega) only [Bool.false_eq_true, jz_lit, jz_neg, jz_nat, jz_add, jz_sub, jz_mul, jz_lt, jz_le, jz_eq, jz_ix, jin_z, jz_div, jzw, jwz, jw_lit, jw_neg, jw_add, jw_sub, jw_mul, jw_lt, jw_le, jw_eq, jw_div, Int.toNat_natCast, if_pos, if_neg, if_true, if_false, Option.bind_some, Int.natCast_add, Int.natCast_mul, Int.cast_ofNat_Int, Int.reduceToNat, Int.reduceAdd, Int.reduceMul, Int.reduceSub, Int.reduceNeg, Nat.reduceAdd, Nat.reduceMul, hA, jbit_and, e, decide_false, Bool.false_and]
theorem sPy_canAsk_no {a : Int} (b : bV g D) (c : cV p g D h) (bs : bS g S) (cs : cS 11 S h) (h1 : -2147483648 ≤ a) (h2 : a < 2147483648) (hs : ¬ (0 ≤ a ∧ a < ((2 ^ g : Nat) : Int))) : fPy_canAsk p (jz a) h = some (jz 0) := by
  have hN := two8 b.1
  have hA := sPn_allSets b c
  unfold fPy_canAsk
  rw [sSd_ask b bs cs]
  generalize 2 ^ g = N at *
  by_cases e : a < 0
  · simp (disch := omega) only [Bool.false_eq_true, jz_lit, jz_neg, jz_nat, jz_add, jz_sub, jz_mul, jz_lt, jz_le, jz_eq, jz_ix, jin_z, jz_div, jzw, jwz, jw_lit, jw_neg, jw_add, jw_sub, jw_mul, jw_lt, jw_le, jw_eq, jw_div, Int.toNat_natCast, if_pos, if_neg, if_true, if_false, Option.bind_some, Int.natCast_add, Int.natCast_mul, Int.cast_ofNat_Int, Int.reduceToNat, Int.reduceAdd, Int.reduceMul, Int.reduceSub, Int.reduceNeg, Nat.reduceAdd, Nat.reduceMul]
  · simp (disch := omega) only [Bool.false_eq_true, jz_lit, jz_neg, jz_nat, jz_add, jz_sub, jz_mul, jz_lt, jz_le, jz_eq, jz_ix, jin_z, jz_div, jzw, jwz, jw_lit, jw_neg, jw_add, jw_sub, jw_mul, jw_lt, jw_le, jw_eq, jw_div, Int.toNat_natCast, if_pos, if_neg, if_true, if_false, Option.bind_some, Int.natCast_add, Int.natCast_mul, Int.cast_ofNat_Int, Int.reduceToNat, Int.reduceAdd, Int.reduceMul, Int.reduceSub, Int.reduceNeg, Nat.reduceAdd, Nat.reduceMul, hA]
theorem sM_canSend {s : Nat} (b : bV g D) (m : mV g D h) (bs : bS g S) (ms : mS S h) (hs : s < 2 ^ g) : fM_canSend (jz s) h = some (if eCan D S g s then jz 1 else jz 0) := by
  have hN := two8 b.1
  have ha : eAsk S g < 256 := eAsk_lt b.1
  have hA := sM_allGuests b m
  have hle : s &&& eAsk S g ≤ s := Nat.and_le_left
  unfold fM_canSend eCan
  rw [sM_ask b m bs ms, hA]
  generalize 2 ^ g = N at *
  by_cases e : s &&& eAsk S g = 0
  · cases e2 : eWhole D g s (eAsk S g) with
    | true => simp (disch := omega) only [Bool.false_eq_true, jz_lit, jz_neg, jz_nat, jz_add, jz_sub, jz_mul, jz_lt, jz_le, jz_eq, jz_ix, jin_z, jz_div, jzw, jwz, jw_lit, jw_neg, jw_add, jw_sub, jw_mul, jw_lt, jw_le, jw_eq, jw_div, Int.toNat_natCast, if_pos, if_neg, if_true, if_false, Option.bind_some, Int.natCast_add, Int.natCast_mul, Int.cast_ofNat_Int, Int.reduceToNat, Int.reduceAdd, Int.reduceMul, Int.reduceSub, Int.reduceNeg, Nat.reduceAdd, Nat.reduceMul, sM_isIn, jbit_and, e, sM_isWhole b m (show s < 256 by omega) ha, e2, decide_true, Bool.and_self]
              first | done | simp
    | false => simp (disch := omega) only [Bool.false_eq_true, jz_lit, jz_neg, jz_nat, jz_add, jz_sub, jz_mul, jz_lt, jz_le, jz_eq, jz_ix, jin_z, jz_div, jzw, jwz, jw_lit, jw_neg, jw_add, jw_sub, jw_mul, jw_lt, jw_le, jw_eq, jw_div, Int.toNat_natCast, if_pos, if_neg, if_true, if_false, Option.bind_some, Int.natCast_add, Int.natCast_mul, Int.cast_ofNat_Int, Int.reduceToNat, Int.reduceAdd, Int.reduceMul, Int.reduceSub, Int.reduceNeg, Nat.reduceAdd, Nat.reduceMul, sM_isIn, jbit_and, e, sM_isWhole b m (show s < 256 by omega) ha, e2, Bool.and_false]
               first | done | simp
  · simp (disch := omega) only [Bool.false_eq_true, jz_lit, jz_neg, jz_nat, jz_add, jz_sub, jz_mul, jz_lt, jz_le, jz_eq, jz_ix, jin_z, jz_div, jzw, jwz, jw_lit, jw_neg, jw_add, jw_sub, jw_mul, jw_lt, jw_le, jw_eq, jw_div, Int.toNat_natCast, if_pos, if_neg, if_true, if_false, Option.bind_some, Int.natCast_add, Int.natCast_mul, Int.cast_ofNat_Int, Int.reduceToNat, Int.reduceAdd, Int.reduceMul, Int.reduceSub, Int.reduceNeg, Nat.reduceAdd, Nat.reduceMul, sM_isIn, jbit_and, e, decide_false, Bool.false_and]
theorem sM_canSend_no {a : Int} (b : bV g D) (m : mV g D h) (bs : bS g S) (ms : mS S h) (h1 : -2147483648 ≤ a) (h2 : a < 2147483648) (hs : ¬ (0 ≤ a ∧ a < ((2 ^ g : Nat) : Int))) : fM_canSend (jz a) h = some (jz 0) := by
  have hN := two8 b.1
  have hA := sM_allGuests b m
  unfold fM_canSend
  rw [hA]
  generalize 2 ^ g = N at *
  simp (disch := omega) only [Bool.false_eq_true, jz_lit, jz_neg, jz_nat, jz_add, jz_sub, jz_mul, jz_lt, jz_le, jz_eq, jz_ix, jin_z, jz_div, jzw, jwz, jw_lit, jw_neg, jw_add, jw_sub, jw_mul, jw_lt, jw_le, jw_eq, jw_div, Int.toNat_natCast, if_pos, if_neg, if_true, if_false, Option.bind_some, Int.natCast_add, Int.natCast_mul, Int.cast_ofNat_Int, Int.reduceToNat, Int.reduceAdd, Int.reduceMul, Int.reduceSub, Int.reduceNeg, Nat.reduceAdd, Nat.reduceMul, sM_isIn]
theorem eSend_b {s : Nat} (bs : bS g S) (hg : g ≤ 8) (hs : s < 2 ^ g) : bS g (eSend S s) := by
  obtain ⟨a1, a2, a3, a4, a5⟩ := bs
  have e1 : eSend S s 0 1 = S 0 1 := by simp [eSend]
  have e2 : eSend S s 0 2 = if S 0 2 = -1 then S 0 1 else S 0 2 := by simp [eSend]
  refine ⟨by rw [e1]; exact a1, by rw [e1]; exact a2, ?_, ?_, fun k hk => ?_⟩
  · rw [e2]; split <;> omega
  · rw [e1, e2]; split <;> omega
  · have e3 : eSend S s 1 k = if s.testBit k = true then 1 else S 1 k := by simp [eSend]
    have e4 : eSend S s 2 k = if s.testBit k = true then (if S 0 2 = -1 then 0 else S 0 1 - S 0 2) else S 2 k := by simp [eSend]
    have a := a5 k hk
    rw [e3, e4]
    by_cases c : s.testBit k = true
    · have hkg : k < g := by
        apply Classical.byContradiction
        intro h9
        rw [Nat.testBit_lt_two_pow (Nat.lt_of_lt_of_le hs (Nat.pow_le_pow_right (by omega) (by omega)))] at c
        cases c
      rw [if_pos c, if_pos c]
      split <;> omega
    · rw [if_neg c, if_neg c]; exact a
theorem sSd_sendTo {s : Nat} (bs : bS g S) (cs : cS 11 S h) (hs : s < 256) : ∃ h', fSd_sendTo 11 (jz s) h = some h' ∧ eFr (fun o _ => 11 ≤ o ∧ o ≤ 13) h h' ∧ cS 11 (eSend S s) h' := by
  obtain ⟨a1, a2, a3, a4, a5⟩ := bs
  have cs1 := cS11 cs
  have hb : fSd_behindNow 11 h = jz (if S 0 2 = -1 then 0 else S 0 1 - S 0 2) := by
    unfold fSd_behindNow
    rw [cs1.1, cs1.2.1]
    by_cases e : S 0 2 = -1
    · simp (disch := omega) only [Bool.false_eq_true, jz_lit, jz_neg, jz_nat, jz_add, jz_sub, jz_mul, jz_lt, jz_le, jz_eq, jz_ix, jin_z, jz_div, jzw, jwz, jw_lit, jw_neg, jw_add, jw_sub, jw_mul, jw_lt, jw_le, jw_eq, jw_div, Int.toNat_natCast, if_pos, if_neg, if_true, if_false, Option.bind_some, Int.natCast_add, Int.natCast_mul, Int.cast_ofNat_Int, Int.reduceToNat, Int.reduceAdd, Int.reduceMul, Int.reduceSub, Int.reduceNeg, Nat.reduceAdd, Nat.reduceMul, e]
    · simp (disch := omega) only [Bool.false_eq_true, jz_lit, jz_neg, jz_nat, jz_add, jz_sub, jz_mul, jz_lt, jz_le, jz_eq, jz_ix, jin_z, jz_div, jzw, jwz, jw_lit, jw_neg, jw_add, jw_sub, jw_mul, jw_lt, jw_le, jw_eq, jw_div, Int.toNat_natCast, if_pos, if_neg, if_true, if_false, Option.bind_some, Int.natCast_add, Int.natCast_mul, Int.cast_ofNat_Int, Int.reduceToNat, Int.reduceAdd, Int.reduceMul, Int.reduceSub, Int.reduceNeg, Nat.reduceAdd, Nat.reduceMul, e]
  generalize hB : (if S 0 2 = -1 then 0 else S 0 1 - S 0 2) = B at *
  have hl := jlim_cnt (step := fSd_sendTo_l7 11 (jz s) (jz B)) (fun k (x : jH) => (jz k, x)) (fun k x => eFr (fun o _ => o = 12 ∨ o = 13) h x ∧ ∀ j, j < 8 → x.1 12 j = jz (if j < k ∧ s.testBit j = true then 1 else S 1 j) ∧ x.1 13 j = jz (if j < k ∧ s.testBit j = true then B else S 2 j)) (fun x => eFr (fun o _ => o = 12 ∨ o = 13) h x ∧ ∀ j, j < 8 → x.1 12 j = jz (if s.testBit j = true then 1 else S 1 j) ∧ x.1 13 j = jz (if s.testBit j = true then B else S 2 j)) 8 8 0 (by omega) h ⟨eFr_refl _ _, fun j hj => by rw [if_neg (by omega), if_neg (by omega)]; exact cs1.2.2 j hj⟩ ?_ ?_
  · obtain ⟨x, e1, f1, r1⟩ := hl
    have e1' : jlim (fSd_sendTo_l7 11 (jz s) (jz B)) (jz 0, h) = some x := e1
    have x0 : x.1 11 0 = jz (S 0 1) := by rw [f1.1 _ _ (by omega)]; exact cs1.1
    have x1 : x.1 11 1 = jz (S 0 2) := by rw [f1.1 _ _ (by omega)]; exact cs1.2.1
    have es1 : ∀ k, eSend S s 1 k = if s.testBit k = true then 1 else S 1 k := fun k => by simp [eSend]
    have es2 : ∀ k, eSend S s 2 k = if s.testBit k = true then B else S 2 k := fun k => by rw [← hB]; simp [eSend]
    by_cases e : S 0 2 = -1
    · refine ⟨jhI x 11 1 (jz (S 0 1)), ?_, eFr_I (S := fun o _ => 11 ≤ o ∧ o ≤ 13) (eFr_mono f1 (fun o k hk => by omega)) (by omega) _, ?_, ?_, fun k hk => ?_⟩
      · unfold fSd_sendTo
        rw [hb]
        simp (disch := omega) only [Bool.false_eq_true, jz_lit, jz_neg, jz_nat, jz_add, jz_sub, jz_mul, jz_lt, jz_le, jz_eq, jz_ix, jin_z, jz_div, jzw, jwz, jw_lit, jw_neg, jw_add, jw_sub, jw_mul, jw_lt, jw_le, jw_eq, jw_div, Int.toNat_natCast, if_pos, if_neg, if_true, if_false, Option.bind_some, Int.natCast_add, Int.natCast_mul, Int.cast_ofNat_Int, Int.reduceToNat, Int.reduceAdd, Int.reduceMul, Int.reduceSub, Int.reduceNeg, Nat.reduceAdd, Nat.reduceMul, e1', x0, x1, e]
      · rw [jhI_1, if_neg (by omega), x0]; simp [eSend]
      · rw [jhI_1, if_pos ⟨rfl, rfl⟩]; simp [eSend, e]
      · rw [es1, es2]
        simp (disch := omega) only [jhI_1, jhI_2, jhL_1, jhL_2, if_neg, if_pos, eq_self, and_self, if_true, if_false, Nat.reduceEqDiff, false_and, and_false, true_and, and_true]
        exact r1 k hk
    · refine ⟨x, ?_, eFr_mono f1 (fun o k hk => by omega), ?_, ?_, fun k hk => ?_⟩
      · unfold fSd_sendTo
        rw [hb]
        simp (disch := omega) only [Bool.false_eq_true, jz_lit, jz_neg, jz_nat, jz_add, jz_sub, jz_mul, jz_lt, jz_le, jz_eq, jz_ix, jin_z, jz_div, jzw, jwz, jw_lit, jw_neg, jw_add, jw_sub, jw_mul, jw_lt, jw_le, jw_eq, jw_div, Int.toNat_natCast, if_pos, if_neg, if_true, if_false, Option.bind_some, Int.natCast_add, Int.natCast_mul, Int.cast_ofNat_Int, Int.reduceToNat, Int.reduceAdd, Int.reduceMul, Int.reduceSub, Int.reduceNeg, Nat.reduceAdd, Nat.reduceMul, e1', x0, x1, e]
      · rw [x0]; simp [eSend]
      · rw [x1]; simp [eSend, e]
      · rw [es1, es2]
        exact r1 k hk
  · rintro k x _ hk ⟨q1, q2⟩
    cases ht : s.testBit k with
    | true =>
      refine ⟨jhI (jhI x 12 k (jz 1)) 13 k (jz B), ?_, eFr_I (S := fun o _ => o = 12 ∨ o = 13) (eFr_I (S := fun o _ => o = 12 ∨ o = 13) q1 (Or.inl rfl) _) (Or.inr rfl) _, fun j hj => ?_⟩
      · simp only [fSd_sendTo_l7, fSd_sendTo_l7_b, fSd_sendTo_l7_j36]
        simp (disch := omega) only [Bool.false_eq_true, jz_lit, jz_neg, jz_nat, jz_add, jz_sub, jz_mul, jz_lt, jz_le, jz_eq, jz_ix, jin_z, jz_div, jzw, jwz, jw_lit, jw_neg, jw_add, jw_sub, jw_mul, jw_lt, jw_le, jw_eq, jw_div, Int.toNat_natCast, if_pos, if_neg, if_true, if_false, Option.bind_some, Int.natCast_add, Int.natCast_mul, Int.cast_ofNat_Int, Int.reduceToNat, Int.reduceAdd, Int.reduceMul, Int.reduceSub, Int.reduceNeg, Nat.reduceAdd, Nat.reduceMul, jbit_at hs hk, ht]
      · by_cases e : j = k
        · subst e
          rw [if_pos ⟨by omega, ht⟩, if_pos ⟨by omega, ht⟩, jhI_1, if_neg (by omega), jhI_1, if_pos ⟨rfl, rfl⟩, jhI_1, if_pos ⟨rfl, rfl⟩]
          exact ⟨rfl, rfl⟩
        · simp (disch := omega) only [jhI_1, jhI_2, jhL_1, jhL_2, if_neg, if_pos, eq_self, and_self, if_true, if_false, Nat.reduceEqDiff, false_and, and_false, true_and, and_true]
          have := q2 j hj
          have e2 : (j < k + 1 ∧ s.testBit j = true) = (j < k ∧ s.testBit j = true) := by
            apply propext
            constructor
            · rintro ⟨x1, x2⟩; exact ⟨by omega, x2⟩
            · rintro ⟨x1, x2⟩; exact ⟨by omega, x2⟩
          simp only [e2]
          exact this
    | false =>
      refine ⟨x, ?_, q1, fun j hj => ?_⟩
      · simp only [fSd_sendTo_l7, fSd_sendTo_l7_b, fSd_sendTo_l7_j36]
        simp (disch := omega) only [Bool.false_eq_true, jz_lit, jz_neg, jz_nat, jz_add, jz_sub, jz_mul, jz_lt, jz_le, jz_eq, jz_ix, jin_z, jz_div, jzw, jwz, jw_lit, jw_neg, jw_add, jw_sub, jw_mul, jw_lt, jw_le, jw_eq, jw_div, Int.toNat_natCast, if_pos, if_neg, if_true, if_false, Option.bind_some, Int.natCast_add, Int.natCast_mul, Int.cast_ofNat_Int, Int.reduceToNat, Int.reduceAdd, Int.reduceMul, Int.reduceSub, Int.reduceNeg, Nat.reduceAdd, Nat.reduceMul, jbit_at hs hk, ht]
      · have := q2 j hj
        have e2 : (j < k + 1 ∧ s.testBit j = true) = (j < k ∧ s.testBit j = true) := by
          apply propext
          constructor
          · rintro ⟨x1, x2⟩
            refine ⟨?_, x2⟩
            by_cases e : j = k
            · subst e; rw [ht] at x2; cases x2
            · omega
          · rintro ⟨x1, x2⟩; exact ⟨by omega, x2⟩
        simp only [e2]
        exact this
  · rintro x ⟨q1, q2⟩
    refine ⟨x, ?_, q1, fun j hj => ?_⟩
    · simp only [fSd_sendTo_l7, fSd_sendTo_l7_b]
      simp (disch := omega) only [Bool.false_eq_true, jz_lit, jz_neg, jz_nat, jz_add, jz_sub, jz_mul, jz_lt, jz_le, jz_eq, jz_ix, jin_z, jz_div, jzw, jwz, jw_lit, jw_neg, jw_add, jw_sub, jw_mul, jw_lt, jw_le, jw_eq, jw_div, Int.toNat_natCast, if_pos, if_neg, if_true, if_false, Option.bind_some, Int.natCast_add, Int.natCast_mul, Int.cast_ofNat_Int, Int.reduceToNat, Int.reduceAdd, Int.reduceMul, Int.reduceSub, Int.reduceNeg, Nat.reduceAdd, Nat.reduceMul]
    · have := q2 j hj
      simp only [hj, true_and] at this
      exact this
theorem sM_sends {s : Nat} (b : bV g D) (m : mV g D h) (bs : bS g S) (ms : mS S h) (hs : s < 2 ^ g) (hs0 : s ≠ 0) : ∃ h', fM_sends (jz s) h = some h' ∧ eFr (fun o k => o = 148 ∧ k < 18) h h' ∧ mS (eSend S s) h' ∧ h'.2 = h.2 := by
  have hN := two8 b.1
  have b0 := b.1
  obtain ⟨a1, a2, a3, a4, a5⟩ := bs
  have hbit : ∀ j, g ≤ j → s.testBit j = false := fun j hj => Nat.testBit_lt_two_pow (Nat.lt_of_lt_of_le hs (Nat.pow_le_pow_right (by omega) hj))
  have core : ∀ y : jH, eFr (fun o k => o = 148 ∧ k < 18) h y → y.1 148 0 = jz (S 0 1) → y.1 148 1 = jz (eSend S s 0 2) → (∀ j, j < 8 → y.1 148 (2 + 2 * j) = jz (S 1 j) ∧ y.1 148 (2 + 2 * j + 1) = jz (S 2 j)) → y.2 = h.2 → ∃ h', fM_sends_j27 (jz s) y = some h' ∧ eFr (fun o k => o = 148 ∧ k < 18) h h' ∧ mS (eSend S s) h' ∧ h'.2 = h.2 := by
    intro y fy y0 y1 y2 y3
    have es1 : ∀ k, eSend S s 1 k = if s.testBit k = true then 1 else S 1 k := fun k => by simp [eSend]
    have es2 : ∀ k, eSend S s 2 k = if s.testBit k = true then S 0 1 - eSend S s 0 2 else S 2 k := fun k => by
      simp only [eSend]
      by_cases e : S 0 2 = -1
      · simp [e]
      · simp [e]
    have hl := jlim_cnt (step := fM_sends_l29 (jz s)) (fun k (x : jH) => (jz k, x)) (fun k x => eFr (fun o k => o = 148 ∧ k < 18) h x ∧ x.2 = h.2 ∧ x.1 148 0 = jz (S 0 1) ∧ x.1 148 1 = jz (eSend S s 0 2) ∧ ∀ j, j < 8 → x.1 148 (2 + 2 * j) = jz (if j < k ∧ s.testBit j = true then 1 else S 1 j) ∧ x.1 148 (2 + 2 * j + 1) = jz (if j < k ∧ s.testBit j = true then S 0 1 - eSend S s 0 2 else S 2 j)) (fun x => eFr (fun o k => o = 148 ∧ k < 18) h x ∧ mS (eSend S s) x ∧ x.2 = h.2) g g 0 (by omega) y ⟨fy, y3, y0, y1, fun j hj => by rw [if_neg (by omega), if_neg (by omega)]; exact y2 j hj⟩ ?_ ?_
    · obtain ⟨x, e1, f1, r1⟩ := hl
      refine ⟨x, ?_, f1, r1⟩
      unfold fM_sends_j27
      have e1' : jlim (fM_sends_l29 (jz s)) (jz 0, y) = some x := e1
      simp (disch := omega) only [Bool.false_eq_true, jz_lit, jz_neg, jz_nat, jz_add, jz_sub, jz_mul, jz_lt, jz_le, jz_eq, jz_ix, jin_z, jz_div, jzw, jwz, jw_lit, jw_neg, jw_add, jw_sub, jw_mul, jw_lt, jw_le, jw_eq, jw_div, Int.toNat_natCast, if_pos, if_neg, if_true, if_false, Option.bind_some, Int.natCast_add, Int.natCast_mul, Int.cast_ofNat_Int, Int.reduceToNat, Int.reduceAdd, Int.reduceMul, Int.reduceSub, Int.reduceNeg, Nat.reduceAdd, Nat.reduceMul, e1']
    · rintro k x _ hk ⟨q1, q8, q0, q9, q2⟩
      have m1 : mV g D x := mV_fr (fun o k hk => q1.1 o k (by omega)) m
      have i1 : ((2 : Int) + 2 * (k : Int)).toNat = 2 + 2 * k := by omega
      have i2 : ((2 : Int) + 2 * (k : Int) + 1).toNat = 2 + 2 * k + 1 := by omega
      cases ht : s.testBit k with
      | true =>
        refine ⟨jhI (jhI x 148 (2 + 2 * k) (jz 1)) 148 (2 + 2 * k + 1) (jz (S 0 1 - eSend S s 0 2)), ?_, eFr_I (S := fun o k => o = 148 ∧ k < 18) (eFr_I (S := fun o k => o = 148 ∧ k < 18) q1 ⟨rfl, by omega⟩ _) ⟨rfl, by omega⟩ _, q8, ?_, ?_, fun j hj => ?_⟩
        · simp only [fM_sends_l29, fM_sends_l29_b, fM_sends_l29_j82, sM_guestMany m1]
          simp (disch := omega) only [Bool.false_eq_true, jz_lit, jz_neg, jz_nat, jz_add, jz_sub, jz_mul, jz_lt, jz_le, jz_eq, jz_ix, jin_z, jz_div, jzw, jwz, jw_lit, jw_neg, jw_add, jw_sub, jw_mul, jw_lt, jw_le, jw_eq, jw_div, Int.toNat_natCast, if_pos, if_neg, if_true, if_false, Option.bind_some, Int.natCast_add, Int.natCast_mul, Int.cast_ofNat_Int, Int.reduceToNat, Int.reduceAdd, Int.reduceMul, Int.reduceSub, Int.reduceNeg, Nat.reduceAdd, Nat.reduceMul, jbit_at (show s < 256 by omega) (show k < 8 by omega), ht, i1, i2]
          rw [jhI_1, if_neg (by omega), jhI_1, if_neg (by omega), q0, q9, jz_sub]
        · rw [jhI_1, if_neg (by omega), jhI_1, if_neg (by omega)]; exact q0
        · rw [jhI_1, if_neg (by omega), jhI_1, if_neg (by omega)]; exact q9
        · by_cases e : j = k
          · subst e
            rw [if_pos ⟨by omega, ht⟩, if_pos ⟨by omega, ht⟩, jhI_1, if_neg (by omega), jhI_1, if_pos ⟨rfl, rfl⟩, jhI_1, if_pos ⟨rfl, rfl⟩]
            exact ⟨rfl, rfl⟩
          · simp (disch := omega) only [jhI_1, jhI_2, jhL_1, jhL_2, if_neg, if_pos, eq_self, and_self, if_true, if_false, Nat.reduceEqDiff, false_and, and_false, true_and, and_true]
            have := q2 j hj
            have e2 : (j < k + 1 ∧ s.testBit j = true) = (j < k ∧ s.testBit j = true) := by
              apply propext
              constructor
              · rintro ⟨x1, x2⟩; exact ⟨by omega, x2⟩
              · rintro ⟨x1, x2⟩; exact ⟨by omega, x2⟩
            simp only [e2]
            exact this
      | false =>
        refine ⟨x, ?_, q1, q8, q0, q9, fun j hj => ?_⟩
        · simp only [fM_sends_l29, fM_sends_l29_b, fM_sends_l29_j82, sM_guestMany m1]
          simp (disch := omega) only [Bool.false_eq_true, jz_lit, jz_neg, jz_nat, jz_add, jz_sub, jz_mul, jz_lt, jz_le, jz_eq, jz_ix, jin_z, jz_div, jzw, jwz, jw_lit, jw_neg, jw_add, jw_sub, jw_mul, jw_lt, jw_le, jw_eq, jw_div, Int.toNat_natCast, if_pos, if_neg, if_true, if_false, Option.bind_some, Int.natCast_add, Int.natCast_mul, Int.cast_ofNat_Int, Int.reduceToNat, Int.reduceAdd, Int.reduceMul, Int.reduceSub, Int.reduceNeg, Nat.reduceAdd, Nat.reduceMul, jbit_at (show s < 256 by omega) (show k < 8 by omega), ht]
        · have := q2 j hj
          have e2 : (j < k + 1 ∧ s.testBit j = true) = (j < k ∧ s.testBit j = true) := by
            apply propext
            constructor
            · rintro ⟨x1, x2⟩
              refine ⟨?_, x2⟩
              by_cases e : j = k
              · subst e; rw [ht] at x2; cases x2
              · omega
            · rintro ⟨x1, x2⟩; exact ⟨by omega, x2⟩
          simp only [e2]
          exact this
    · rintro x ⟨q1, q8, q0, q9, q2⟩
      have m1 : mV g D x := mV_fr (fun o k hk => q1.1 o k (by omega)) m
      refine ⟨x, ?_, q1, ⟨?_, q9, fun j hj => ?_⟩, q8⟩
      · simp only [fM_sends_l29, fM_sends_l29_b, sM_guestMany m1]
        simp (disch := omega) only [Bool.false_eq_true, jz_lit, jz_neg, jz_nat, jz_add, jz_sub, jz_mul, jz_lt, jz_le, jz_eq, jz_ix, jin_z, jz_div, jzw, jwz, jw_lit, jw_neg, jw_add, jw_sub, jw_mul, jw_lt, jw_le, jw_eq, jw_div, Int.toNat_natCast, if_pos, if_neg, if_true, if_false, Option.bind_some, Int.natCast_add, Int.natCast_mul, Int.cast_ofNat_Int, Int.reduceToNat, Int.reduceAdd, Int.reduceMul, Int.reduceSub, Int.reduceNeg, Nat.reduceAdd, Nat.reduceMul]
      · rw [q0]; simp [eSend]
      · rw [es1, es2]
        have := q2 j hj
        by_cases e : j < g
        · simp only [e, true_and] at this; exact this
        · rw [hbit j (by omega)] at this ⊢
          simp only [Bool.false_eq_true, and_false, if_false] at this ⊢
          exact this
  unfold fM_sends
  by_cases e : S 0 2 = -1
  · have e2 : eSend S s 0 2 = S 0 1 := by simp [eSend, e]
    obtain ⟨h', e1, r⟩ := core (jhI h 148 1 (jz (S 0 1))) (eFr_I (S := fun o k => o = 148 ∧ k < 18) (eFr_refl _ h) ⟨rfl, by omega⟩ _) (by rw [jhI_1, if_neg (by omega)]; exact ms.1) (by rw [e2]; rfl) (fun j hj => by rw [jhI_1, if_neg (by omega), jhI_1, if_neg (by omega)]; exact ms.2.2 j hj) rfl
    refine ⟨h', ?_, r⟩
    simp (disch := omega) only [Bool.false_eq_true, jz_lit, jz_neg, jz_nat, jz_add, jz_sub, jz_mul, jz_lt, jz_le, jz_eq, jz_ix, jin_z, jz_div, jzw, jwz, jw_lit, jw_neg, jw_add, jw_sub, jw_mul, jw_lt, jw_le, jw_eq, jw_div, Int.toNat_natCast, if_pos, if_neg, if_true, if_false, Option.bind_some, Int.natCast_add, Int.natCast_mul, Int.cast_ofNat_Int, Int.reduceToNat, Int.reduceAdd, Int.reduceMul, Int.reduceSub, Int.reduceNeg, Nat.reduceAdd, Nat.reduceMul, ms.1, ms.2.1, e, e1]
  · have e2 : eSend S s 0 2 = S 0 2 := by simp [eSend, e]
    obtain ⟨h', e1, r⟩ := core h (eFr_refl _ h) ms.1 (by rw [e2]; exact ms.2.1) ms.2.2 rfl
    refine ⟨h', ?_, r⟩
    simp (disch := omega) only [Bool.false_eq_true, jz_lit, jz_neg, jz_nat, jz_add, jz_sub, jz_mul, jz_lt, jz_le, jz_eq, jz_ix, jin_z, jz_div, jzw, jwz, jw_lit, jw_neg, jw_add, jw_sub, jw_mul, jw_lt, jw_le, jw_eq, jw_div, Int.toNat_natCast, if_pos, if_neg, if_true, if_false, Option.bind_some, Int.natCast_add, Int.natCast_mul, Int.cast_ofNat_Int, Int.reduceToNat, Int.reduceAdd, Int.reduceMul, Int.reduceSub, Int.reduceNeg, Nat.reduceAdd, Nat.reduceMul, ms.1, ms.2.1, e, e1]
end EA
theorem call_24 : jcal_24 jInv := by
  intro p d q h a0 V
  have V0 := V
  obtain ⟨hpd, hq, v1, v2, v3, v4, v5, v6, g, D, S, L, u1, u2, u3⟩ := V
  have u1' := u1
  obtain ⟨b, c, m, w1, w2, w3, w4⟩ := u1'
  obtain ⟨bs, cs, ms⟩ := u2
  obtain ⟨cn, w, K, hc, hw, a1, a2, a3⟩ := jPast_to u3
  have hb_a := jz_bd a0
  generalize ha_a : a0.toInt = a at hb_a
  obtain rfl : a0 = jz a := by rw [← ha_a]; exact jz_self a0
  clear ha_a
  have hN := two8 b.1
  have no : (a = 0 ∨ ¬ (0 ≤ a ∧ a < ((2 ^ g : Nat) : Int) ∧ eCan D S g a.toNat = true)) → ∃ zA : Int32 × (Nat → Nat) × jH, fA_send p q (jz a) h = some zA ∧ ∃ zM : Int32 × jH, fM_send (jz a) zA.2.2 = some zM ∧ zA.1 = zM.1 ∧ jInv p d zA.2.1 zM.2 := by
    intro hn
    refine ⟨(jz (-1), q, jhI h 97 2 (h.1 97 2 + 1)), ?_, (jz (-1), jhI (jhI h 97 2 (h.1 97 2 + 1)) 112 2 (h.1 112 2 + 1)), ?_, rfl, eInv_ref V0 (by omega)⟩
    · have r := sA_refuse (k := 2) (by omega) h
      unfold fA_send fA_send_j15
      by_cases e : a = 0
      · simp (disch := omega) only [Bool.false_eq_true, jz_lit, jz_neg, jz_nat, jz_add, jz_sub, jz_mul, jz_lt, jz_le, jz_eq, jz_ix, jin_z, jz_div, jzw, jwz, jw_lit, jw_neg, jw_add, jw_sub, jw_mul, jw_lt, jw_le, jw_eq, jw_div, Int.toNat_natCast, if_pos, if_neg, if_true, if_false, Option.bind_some, Int.natCast_add, Int.natCast_mul, Int.cast_ofNat_Int, Int.reduceToNat, Int.reduceAdd, Int.reduceMul, Int.reduceSub, Int.reduceNeg, Nat.reduceAdd, Nat.reduceMul, e, show fA_refuse (jz 2) h = _ from r]
      · by_cases e2 : 0 ≤ a ∧ a < ((2 ^ g : Nat) : Int)
        · obtain ⟨s, rfl⟩ : ∃ s : Nat, a = s := ⟨a.toNat, by omega⟩
          have e3 : eCan D S g s = false := by
            cases e4 : eCan D S g s with
            | false => rfl
            | true =>
              rcases hn with hn | hn
              · exact absurd hn e
              · exact absurd ⟨e2.1, e2.2, by rw [Int.toNat_natCast]; exact e4⟩ hn
          simp (disch := omega) only [Bool.false_eq_true, jz_lit, jz_neg, jz_nat, jz_add, jz_sub, jz_mul, jz_lt, jz_le, jz_eq, jz_ix, jin_z, jz_div, jzw, jwz, jw_lit, jw_neg, jw_add, jw_sub, jw_mul, jw_lt, jw_le, jw_eq, jw_div, Int.toNat_natCast, if_pos, if_neg, if_true, if_false, Option.bind_some, Int.natCast_add, Int.natCast_mul, Int.cast_ofNat_Int, Int.reduceToNat, Int.reduceAdd, Int.reduceMul, Int.reduceSub, Int.reduceNeg, Nat.reduceAdd, Nat.reduceMul, sPy_canAsk b c bs cs (show s < 2 ^ g by omega), e3, show fA_refuse (jz 2) h = _ from r]
        · simp (disch := omega) only [Bool.false_eq_true, jz_lit, jz_neg, jz_nat, jz_add, jz_sub, jz_mul, jz_lt, jz_le, jz_eq, jz_ix, jin_z, jz_div, jzw, jwz, jw_lit, jw_neg, jw_add, jw_sub, jw_mul, jw_lt, jw_le, jw_eq, jw_div, Int.toNat_natCast, if_pos, if_neg, if_true, if_false, Option.bind_some, Int.natCast_add, Int.natCast_mul, Int.cast_ofNat_Int, Int.reduceToNat, Int.reduceAdd, Int.reduceMul, Int.reduceSub, Int.reduceNeg, Nat.reduceAdd, Nat.reduceMul, sPy_canAsk_no b c bs cs hb_a.1 hb_a.2 e2, show fA_refuse (jz 2) h = _ from r]
    · have hF : eFr (fun o k => o = 97) h (jhI h 97 2 (h.1 97 2 + 1)) := eFr_I (S := fun o k => o = 97) (eFr_refl _ h) rfl _
      have m1 : mV g D (jhI h 97 2 (h.1 97 2 + 1)) := mV_fr (fun o k hk => hF.1 o k (by omega)) m
      have ms1 : mS S (jhI h 97 2 (h.1 97 2 + 1)) := mS_fr (fun k => hF.1 _ k (by omega)) ms
      have hy : (jhI h 97 2 (h.1 97 2 + 1)).1 112 2 = h.1 112 2 := rfl
      show fM_send (jz a) (jhI h 97 2 (h.1 97 2 + 1)) = some (jz (-1), jhI (jhI h 97 2 (h.1 97 2 + 1)) 112 2 (h.1 112 2 + 1))
      generalize jhI h 97 2 (h.1 97 2 + 1) = y at *
      unfold fM_send fM_send_j12
      by_cases e : a = 0
      · simp (disch := omega) only [Bool.false_eq_true, jz_lit, jz_neg, jz_nat, jz_add, jz_sub, jz_mul, jz_lt, jz_le, jz_eq, jz_ix, jin_z, jz_div, jzw, jwz, jw_lit, jw_neg, jw_add, jw_sub, jw_mul, jw_lt, jw_le, jw_eq, jw_div, Int.toNat_natCast, if_pos, if_neg, if_true, if_false, Option.bind_some, Int.natCast_add, Int.natCast_mul, Int.cast_ofNat_Int, Int.reduceToNat, Int.reduceAdd, Int.reduceMul, Int.reduceSub, Int.reduceNeg, Nat.reduceAdd, Nat.reduceMul, e, hy]
      · by_cases e2 : 0 ≤ a ∧ a < ((2 ^ g : Nat) : Int)
        · obtain ⟨s, rfl⟩ : ∃ s : Nat, a = s := ⟨a.toNat, by omega⟩
          have e3 : eCan D S g s = false := by
            cases e4 : eCan D S g s with
            | false => rfl
            | true =>
              rcases hn with hn | hn
              · exact absurd hn e
              · exact absurd ⟨e2.1, e2.2, by rw [Int.toNat_natCast]; exact e4⟩ hn
          simp (disch := omega) only [Bool.false_eq_true, jz_lit, jz_neg, jz_nat, jz_add, jz_sub, jz_mul, jz_lt, jz_le, jz_eq, jz_ix, jin_z, jz_div, jzw, jwz, jw_lit, jw_neg, jw_add, jw_sub, jw_mul, jw_lt, jw_le, jw_eq, jw_div, Int.toNat_natCast, if_pos, if_neg, if_true, if_false, Option.bind_some, Int.natCast_add, Int.natCast_mul, Int.cast_ofNat_Int, Int.reduceToNat, Int.reduceAdd, Int.reduceMul, Int.reduceSub, Int.reduceNeg, Nat.reduceAdd, Nat.reduceMul, sM_canSend b m1 bs ms1 (show s < 2 ^ g by omega), e3, hy]
        · simp (disch := omega) only [Bool.false_eq_true, jz_lit, jz_neg, jz_nat, jz_add, jz_sub, jz_mul, jz_lt, jz_le, jz_eq, jz_ix, jin_z, jz_div, jzw, jwz, jw_lit, jw_neg, jw_add, jw_sub, jw_mul, jw_lt, jw_le, jw_eq, jw_div, Int.toNat_natCast, if_pos, if_neg, if_true, if_false, Option.bind_some, Int.natCast_add, Int.natCast_mul, Int.cast_ofNat_Int, Int.reduceToNat, Int.reduceAdd, Int.reduceMul, Int.reduceSub, Int.reduceNeg, Nat.reduceAdd, Nat.reduceMul, sM_canSend_no b m1 bs ms1 hb_a.1 hb_a.2 e2, hy]
  by_cases e0 : a = 0
  · exact no (Or.inl e0)
  by_cases e1 : 0 ≤ a ∧ a < ((2 ^ g : Nat) : Int) ∧ eCan D S g a.toNat = true
  · obtain ⟨s, rfl⟩ : ∃ s : Nat, a = s := ⟨a.toNat, by omega⟩
    rw [Int.toNat_natCast] at e1
    have hs : s < 2 ^ g := by omega
    obtain ⟨q', h1, k1, hq', f1, r1⟩ := sPa_keep hq hc a1 cs
    have cs1 : cS 11 S h1 := cS_fr (fun o k hk => f1.1 _ _ (by unfold ePC; omega)) cs
    obtain ⟨h2, k2, f2, r2⟩ := sSd_sendTo (s := s) bs cs1 (by omega)
    have a2' : mPast cn w K h2 := mPast_fr (fun o k hk => by unfold ePM at hk; rw [f2.1 _ _ (by omega), f1.1 _ _ (by unfold ePC; omega)]) a2
    have m2 : mV g D h2 := mV_fr (fun o k hk => by rw [f2.1 _ _ (by omega), f1.1 _ _ (by unfold ePC; omega)]) m
    have ms2 : mS S h2 := mS_fr (fun k => by rw [f2.1 _ _ (by omega), f1.1 _ _ (by unfold ePC; omega)]) ms
    obtain ⟨h3, k3, f3, r3⟩ := sM_keeps hc hw a2' ms2
    have m3 : mV g D h3 := mV_fr (fun o k hk => f3.1 _ _ (by unfold ePM; omega)) m2
    have ms3 : mS S h3 := mS_fr (fun k => f3.1 _ _ (by unfold ePM; omega)) ms2
    obtain ⟨h4, k4, f4, r4, -⟩ := sM_sends (s := s) b m3 bs ms3 hs (by omega)
    refine ⟨(jz (jpc s), q', h2), ?_, (jz (jpc s), h4), ?_, rfl, ?_⟩
    · unfold fA_send
      simp (disch := omega) only [Bool.false_eq_true, jz_lit, jz_neg, jz_nat, jz_add, jz_sub, jz_mul, jz_lt, jz_le, jz_eq, jz_ix, jin_z, jz_div, jzw, jwz, jw_lit, jw_neg, jw_add, jw_sub, jw_mul, jw_lt, jw_le, jw_eq, jw_div, Int.toNat_natCast, if_pos, if_neg, if_true, if_false, Option.bind_some, Int.natCast_add, Int.natCast_mul, Int.cast_ofNat_Int, Int.reduceToNat, Int.reduceAdd, Int.reduceMul, Int.reduceSub, Int.reduceNeg, Nat.reduceAdd, Nat.reduceMul, sPy_canAsk b c bs cs hs, e1, k1, k2, sIn_bitCount (show s < 256 by omega)]
      first | done | simp
    · unfold fM_send
      simp (disch := omega) only [Bool.false_eq_true, jz_lit, jz_neg, jz_nat, jz_add, jz_sub, jz_mul, jz_lt, jz_le, jz_eq, jz_ix, jin_z, jz_div, jzw, jwz, jw_lit, jw_neg, jw_add, jw_sub, jw_mul, jw_lt, jw_le, jw_eq, jw_div, Int.toNat_natCast, if_pos, if_neg, if_true, if_false, Option.bind_some, Int.natCast_add, Int.natCast_mul, Int.cast_ofNat_Int, Int.reduceToNat, Int.reduceAdd, Int.reduceMul, Int.reduceSub, Int.reduceNeg, Nat.reduceAdd, Nat.reduceMul, sM_canSend b m2 bs ms2 hs, e1, k3, k4, sM_bits (show s < 256 by omega)]
      first | done | simp
    · refine eAct (q' := q') (S' := eSend S s) hpd hq' v1 v2 v3 v4 v6 u1 (fun o k n => ?_) (fun k => ?_) (iSeed_fr ?_ ?_ v5) ⟨eSend_b bs b.1 hs, cS_fr (fun o k hk => ?_) r2, r4⟩ (jPast_of (c := if cn < 20 then cn + 1 else 20) (w := (w + 1) % 20) (K := eKs S K) (by split <;> omega) (by omega) (cPast_fr hq' (by split <;> omega) (fun o k hk => ?_) r1) (mPast_fr (fun o k hk => ?_) r3) (fun i hi => eKs_b bs a3 i hi hc))
      · unfold eActC ePC ePM at n
        rw [f4.1 _ _ (by omega), f3.1 _ _ (by unfold ePM; omega), f2.1 _ _ (by omega), f1.1 _ _ (by unfold ePC; omega)]
      · rw [f4.2 _ _ (by omega), f3.2 _ _ (by unfold ePM; omega), f2.2 _ _ (by omega), f1.2 _ _ (by unfold ePC; omega)]
      · rw [f4.1 _ _ (by omega), f3.1 _ _ (by unfold ePM; omega), f2.1 _ _ (by omega), f1.1 _ _ (by unfold ePC; omega)]
      · rw [f4.2 _ _ (by omega), f3.2 _ _ (by unfold ePM; omega), f2.2 _ _ (by omega), f1.2 _ _ (by unfold ePC; omega)]
      · rw [f4.1 _ _ (by omega), f3.1 _ _ (by unfold ePM; omega)]
      · unfold ePC at hk
        rw [f4.1 _ _ (by omega), f3.1 _ _ (by unfold ePM; omega), f2.1 _ _ (by omega)]
      · unfold ePM at hk
        rw [f4.1 _ _ (by omega)]
  · exact no (Or.inr e1)
