/-! cards and worth, the reference -/
/-- how guest k is slighted now -/
def eOfM (D S : jD) (L : List Int) (g k : Nat) : Int := if S 1 k = 0 then (if eHD D k &&& eAsk S g = 0 then 0 else D 6 k) else if 0 < S 2 k then eLate D L k (S 2 k) else 0
def eQN (o k : Nat) : Prop := o = 150 ∨ o = 151 ∨ o = 175 ∨ (o = 110 ∧ (k = 49 ∨ k = 53 ∨ k = 86))
section EN
variable {p d g : Nat} {D S : jD} {L : List Int} {h : jH}
theorem eQN_M {o k : Nat} (h : eQN o k) : eQM o k := by
  unfold eQN at h
  unfold eQM
  omega
theorem eOfM_b {k : Nat} (b : bV g D) (hk : k < g) : 0 ≤ eOfM D S L g k ∧ eOfM D S L g k ≤ 999 := by
  have := eLate_b D L k (S 2 k)
  have := b.2.2.2.1 k hk
  unfold eOfM
  split
  · split <;> omega
  · split <;> omega
theorem sM_offOf {k : Nat} (b : bV g D) (m : mV g D h) (bs : bS g S) (ms : mS S h) (l : jLt p L h) (hk : k < g) : ∃ h', fM_offenceOf (jz k) h = some (jz (eOfM D S L g k), h') ∧ eFr eLf h h' := by
  have b0 := b.1
  have b4 := bs.2.2.2.2 k (by omega)
  have e8 := eD8 b (show k < 8 by omega)
  have e9 : h.1 143 (8 + k) = jz (eHD D k) := by rw [(m.2.2.2.2 k (by omega)).2, e8.1]
  have e10 := (m.2.2.2.1 k hk).2.2.2
  have al := eAsk_lt (S := S) b0
  have hle : eHD D k &&& eAsk S g ≤ eAsk S g := Nat.and_le_right
  have u1 : ((8 : Int) + (k : Int)).toNat = 8 + k := by omega
  have u2 : ((35 : Int) + 4 * (k : Int)).toNat = 35 + 4 * k := by omega
  have ia := sM_isAsked ms bs (show k < 8 by omega)
  have wk := sM_weeksOf ms (show k < 8 by omega)
  have ak := sM_ask b m bs ms
  have hd : eOfM D S L g k = if S 1 k = 0 then (if eHD D k &&& eAsk S g = 0 then 0 else D 6 k) else if 0 < S 2 k then eLate D L k (S 2 k) else 0 := rfl
  rw [hd]
  unfold fM_offenceOf
  by_cases c0 : S 1 k = 0
  · refine ⟨h, ?_, eFr_refl _ _⟩
    rw [ia, if_pos c0, if_pos c0, Option.bind_some, if_pos (show jz 0 = 0 from rfl)]
    by_cases hz : eHD D k &&& eAsk S g = 0
    · simp (disch := omega) only [Bool.false_eq_true, jz_lit, jz_neg, jz_nat, jz_add, jz_sub, jz_mul, jz_lt, jz_le, jz_eq, jz_ix, jin_z, jz_div, jzw, jwz, jw_lit, jw_neg, jw_add, jw_sub, jw_mul, jw_lt, jw_le, jw_eq, jw_div, Int.toNat_natCast, if_pos, if_neg, if_true, if_false, Option.bind_some, Int.natCast_add, Int.natCast_mul, Int.cast_ofNat_Int, Int.reduceToNat, Int.reduceAdd, Int.reduceMul, Int.reduceSub, Int.reduceNeg, Nat.reduceAdd, Nat.reduceMul, ak, u1, e9, jbit_and, hz]
      first | done | rfl
    · simp (disch := omega) only [Bool.false_eq_true, jz_lit, jz_neg, jz_nat, jz_add, jz_sub, jz_mul, jz_lt, jz_le, jz_eq, jz_ix, jin_z, jz_div, jzw, jwz, jw_lit, jw_neg, jw_add, jw_sub, jw_mul, jw_lt, jw_le, jw_eq, jw_div, Int.toNat_natCast, if_pos, if_neg, if_true, if_false, Option.bind_some, Int.natCast_add, Int.natCast_mul, Int.cast_ofNat_Int, Int.reduceToNat, Int.reduceAdd, Int.reduceMul, Int.reduceSub, Int.reduceNeg, Nat.reduceAdd, Nat.reduceMul, ak, u1, e9, jbit_and, hz, u2, e10]
  · by_cases c1 : 0 < S 2 k
    · obtain ⟨y, e1, f1⟩ := sM_lateBy b m bs ms l hk c0
      have lb := eLate_b D L k (S 2 k)
      refine ⟨y, ?_, f1⟩
      rw [ia, if_neg c0, if_neg c0, if_pos c1, Option.bind_some, if_neg (by decide), wk, Option.bind_some, if_pos (by rw [show (0 : Int32) = jz 0 from rfl, jz_lt (by omega) (by omega) (by omega) (by omega)]; exact c1), e1, Option.bind_some]
      simp only [jwz]
    · refine ⟨h, ?_, eFr_refl _ _⟩
      rw [ia, if_neg c0, if_neg c0, if_neg c1, Option.bind_some, if_neg (by decide), wk, Option.bind_some, if_neg (by rw [show (0 : Int32) = jz 0 from rfl, jz_lt (by omega) (by omega) (by omega) (by omega)]; exact c1)]
      rfl
theorem sM_offAll (hpd : iPD p d) (b : bV g D) (m : mV g D h) (bs : bS g S) (ms : mS S h) (l : jLt p L h) : ∃ h', fM_offenceAll h = some (jz (eSum (eOfM D S L g) g), h') ∧ eFr eLf h h' := by
  have b0 := b.1
  have hl := jlim_cnt (step := fM_offenceAll_l4) (fun k (x : Int32 × jH) => (x.1, jz k, x.2)) (fun k x => x.1 = jz (eSum (eOfM D S L g) k) ∧ eFr eLf h x.2) (fun x => x.1 = jz (eSum (eOfM D S L g) g) ∧ eFr eLf h x.2) g g 0 (by omega) (jz 0, h) ⟨rfl, eFr_refl _ _⟩ ?_ ?_
  · obtain ⟨x, e1, r0, r1⟩ := hl
    refine ⟨x.2, ?_, r1⟩
    rw [← r0]
    have e1' : jlim fM_offenceAll_l4 (0, 0, h) = some x := e1
    unfold fM_offenceAll
    rw [e1', Option.bind_some]
  · rintro k ⟨v, x⟩ _ hk ⟨q0, q1⟩
    simp only at q0 q1
    have m1 := eLf_m q1 m
    obtain ⟨y, e1, f1⟩ := sM_offOf b m1 bs (eLf_ms q1 ms) (eLf_l hpd q1 l) hk
    refine ⟨(jz (eSum (eOfM D S L g) (k + 1)), y), ?_, rfl, eFr_trans q1 f1⟩
    subst q0
    simp only [fM_offenceAll_l4, fM_offenceAll_l4_b, sM_guestMany m1, eSum]
    simp (disch := omega) only [Bool.false_eq_true, jz_lit, jz_neg, jz_nat, jz_add, jz_sub, jz_mul, jz_lt, jz_le, jz_eq, jz_ix, jin_z, jz_div, jzw, jwz, jw_lit, jw_neg, jw_add, jw_sub, jw_mul, jw_lt, jw_le, jw_eq, jw_div, Int.toNat_natCast, if_pos, if_neg, if_true, if_false, Option.bind_some, Int.natCast_add, Int.natCast_mul, Int.cast_ofNat_Int, Int.reduceToNat, Int.reduceAdd, Int.reduceMul, Int.reduceSub, Int.reduceNeg, Nat.reduceAdd, Nat.reduceMul, e1]
  · rintro ⟨v, x⟩ ⟨q0, q1⟩
    simp only at q0 q1
    have m1 := eLf_m q1 m
    refine ⟨(v, x), ?_, q0, q1⟩
    simp only [fM_offenceAll_l4, fM_offenceAll_l4_b, sM_guestMany m1]
    simp (disch := omega) only [Bool.false_eq_true, jz_lit, jz_neg, jz_nat, jz_add, jz_sub, jz_mul, jz_lt, jz_le, jz_eq, jz_ix, jin_z, jz_div, jzw, jwz, jw_lit, jw_neg, jw_add, jw_sub, jw_mul, jw_lt, jw_le, jw_eq, jw_div, Int.toNat_natCast, if_pos, if_neg, if_true, if_false, Option.bind_some, Int.natCast_add, Int.natCast_mul, Int.cast_ofNat_Int, Int.reduceToNat, Int.reduceAdd, Int.reduceMul, Int.reduceSub, Int.reduceNeg, Nat.reduceAdd, Nat.reduceMul]
theorem sM_joys (b : bV g D) (m : mV g D h) (bs : bS g S) (ms : mS S h) : jlim (fM_worthNow_l8 h) (0, 0) = some (jw (eJoy (eTens D S) D g)) := by
  have b0 := b.1
  refine jlim_go (fun k => (jw (eJoy (eTens D S) D k), jz k)) g rfl (fun i hi => ?_) ?_
  · have tb := eTens_b (S := S) b hi
    have d4 := b.2.2.2.1 i hi
    have h3 : eTens D S i * D 4 i ≤ 10 * D 4 i := Int.mul_le_mul_of_nonneg_right tb.2 (by omega)
    have h4 : 0 ≤ eTens D S i * D 4 i := Int.mul_nonneg tb.1 (by omega)
    have ej : eJoy (eTens D S) D (i + 1) = eJoy (eTens D S) D i + eTens D S i * D 4 i := rfl
    have e1 := sM_tensOf b m bs ms hi
    have e2 := sM_joyOf b m hi
    simp only [fM_worthNow_l8, fM_worthNow_l8_b, sM_guestMany m, ej]
    generalize eTens D S i = t at *
    simp (disch := omega) only [Bool.false_eq_true, jz_lit, jz_neg, jz_nat, jz_add, jz_sub, jz_mul, jz_lt, jz_le, jz_eq, jz_ix, jin_z, jz_div, jzw, jwz, jw_lit, jw_neg, jw_add, jw_sub, jw_mul, jw_lt, jw_le, jw_eq, jw_div, Int.toNat_natCast, if_pos, if_neg, if_true, if_false, Option.bind_some, Int.natCast_add, Int.natCast_mul, Int.cast_ofNat_Int, Int.reduceToNat, Int.reduceAdd, Int.reduceMul, Int.reduceSub, Int.reduceNeg, Nat.reduceAdd, Nat.reduceMul, e1, e2]
  · simp only [fM_worthNow_l8, fM_worthNow_l8_b, sM_guestMany m]
    simp (disch := omega) only [Bool.false_eq_true, jz_lit, jz_neg, jz_nat, jz_add, jz_sub, jz_mul, jz_lt, jz_le, jz_eq, jz_ix, jin_z, jz_div, jzw, jwz, jw_lit, jw_neg, jw_add, jw_sub, jw_mul, jw_lt, jw_le, jw_eq, jw_div, Int.toNat_natCast, if_pos, if_neg, if_true, if_false, Option.bind_some, Int.natCast_add, Int.natCast_mul, Int.cast_ofNat_Int, Int.reduceToNat, Int.reduceAdd, Int.reduceMul, Int.reduceSub, Int.reduceNeg, Nat.reduceAdd, Nat.reduceMul]
theorem sM_worthNow (hpd : iPD p d) (b : bV g D) (m : mV g D h) (bs : bS g S) (ms : mS S h) (l : jLt p L h) : ∃ h', fM_worthNow h = some (jw (eWoV D g (eTens D S) (eSum (eOfM D S L g) g)), h') ∧ eFr eQN h h' := by
  have b0 := b.1
  have hpd2 := hpd
  unfold iPD at hpd2
  obtain ⟨h1, e1, f1, r1, r2⟩ := sM_lays b m bs ms
  have m1 : mV g D h1 := mV_fr (fun o k hk => f1.1 o k (by omega)) m
  have ms1 : mS S h1 := mS_fr (fun k => f1.1 _ _ (by omega)) ms
  have l1 : jLt p L h1 := jLt_fr (fun o k hk => f1.1 o k (by omega)) l
  have e2 := sM_joys b m1 bs ms1
  obtain ⟨h2, e3, f2⟩ := sM_offAll hpd b m1 bs ms1 l1
  have m2 := eLf_m f2 m1
  have r1' : ∀ n : Nat, n ≤ 32 → h2.2 150 n = jw (eHd (eTens D S) (D 5) g n) := fun n hn => by rw [f2.2 _ _ (by unfold eLf; omega)]; exact r1 n hn
  have r2' : h2.2 110 53 = jw ((10 : Int) ^ g) := by rw [f2.2 _ _ (by unfold eLf; omega)]; exact r2
  have d := b.2.1
  obtain ⟨n3, hn3⟩ : ∃ n : Nat, D 0 3 = n := ⟨(D 0 3).toNat, by omega⟩
  have e4 := sM_beyond (h := h2) (n := n3) (by omega) r1'
  rw [← hn3] at e4
  have y3 : h2.1 140 4 = jz (D 0 3) := m2.2.1.1
  have y4 : h2.1 140 5 = jz (D 0 4) := m2.2.1.2.1
  have hT : ∀ i, i < g → 0 ≤ eTens D S i ∧ eTens D S i ≤ 10 := fun i hi => eTens_b b hi
  have ob : 0 ≤ eSum (eOfM D S L g) g ∧ eSum (eOfM D S L g) g ≤ 7992 := by
    have := eSum_b (f := eOfM D S L g) (m := 999) (n := g) (fun k hk => eOfM_b b hk)
    omega
  have nb := eWoN_b (T := eTens D S) b hT ob
  have hp := p10_b b0
  refine ⟨h2, ?_, eFr_trans (eFr_mono f1 (fun o k hk => by unfold eQN; omega)) (eFr_mono f2 (fun o k hk => by unfold eLf at hk; unfold eQN; omega))⟩
  have g1 : jin 5 8 := by decide
  have g2 : jin 4 8 := by decide
  have e2' : jlim (fM_worthNow_l8 h1) (0, 0) = some (jw (eJoy (eTens D S) D g)) := e2
  unfold fM_worthNow
  rw [e1, Option.bind_some, e2', Option.bind_some, e3, Option.bind_some, if_pos g1, if_pos g2]
  have y3' : h2.1 140 (4 : Int32).toNatClampNeg = jz (D 0 3) := y3
  have y4' : h2.1 140 (5 : Int32).toNatClampNeg = jz (D 0 4) := y4
  simp only []
  rw [y3', e4, Option.bind_some, r2, r2', y4']
  have fl := sM_floored (a := eWoN D g (eTens D S) (eSum (eOfM D S L g) g)) (b := (10 : Int) ^ g) (by omega) (by omega) (by omega) (by omega)
  have fx : jw (((10 : Int) ^ g * 10 * eJoy (eTens D S) D g) - ((10 : Int) ^ g * 100 * eSum (eOfM D S L g) g) - (100 * D 0 4 * eBy (eTens D S) (D 5) g (D 0 3))) = jw (eWoN D g (eTens D S) (eSum (eOfM D S L g) g)) := rfl
  rw [jzw (by omega) (by omega), jzw (by omega) (by omega), show (10 : Int64) = jw 10 from rfl, show (100 : Int64) = jw 100 from rfl, jw_mul, jw_mul, jw_mul, jw_mul, jw_mul, jw_mul, jw_sub, jw_sub, fx, fl]
  rfl
theorem eAsk_bit {k : Nat} : (eAsk S g).testBit k = (decide (k < g) && decide (S 1 k ≠ 0)) := jset_bit _ _ _
theorem eAsk_sd {s : Nat} (hs : s < 2 ^ g) : eAsk (eSd S s) g = eAsk S g ||| s := by
  apply Nat.eq_of_testBit_eq
  intro i
  rw [Nat.testBit_or, eAsk_bit, eAsk_bit]
  have ob : g ≤ i → s.testBit i = false := fun hj => Nat.testBit_lt_two_pow (Nat.lt_of_lt_of_le hs (Nat.pow_le_pow_right (by omega) hj))
  unfold eSd
  by_cases e : s = 0
  · rw [if_pos e, e]; simp
  · rw [if_neg e]
    have es1 : eSend S s 1 i = if s.testBit i = true then 1 else S 1 i := by simp [eSend]
    rw [es1]
    by_cases hi : i < g
    · cases ht : s.testBit i with
      | true => simp [hi]
      | false => simp [hi]
    · rw [ob (by omega)]
      simp [hi]
theorem eOf_sd {s k : Nat} (hs : s < 2 ^ g) (hd : s &&& eAsk S g = 0) (hk : k < g) : eOfM D (eSd S s) L g k = eOfC D S L (eAsk S g ||| s) k := by
  unfold eOfM eOfC
  rw [eAsk_sd hs, Nat.testBit_or, eAsk_bit]
  have dj : s.testBit k = true → S 1 k = 0 := by
    intro ht
    have := congrArg (fun x => x.testBit k) hd
    simp only [Nat.testBit_and, ht, eAsk_bit, Bool.true_and, Nat.zero_testBit] at this
    simpa [hk] using this
  have e1 : eSd S s 1 k = if s.testBit k = true then 1 else S 1 k := by
    unfold eSd
    by_cases e : s = 0
    · rw [if_pos e, e]; simp
    · rw [if_neg e]; simp [eSend]
  have e2 : eSd S s 2 k = if s.testBit k = true then eBh S else S 2 k := by
    unfold eSd
    by_cases e : s = 0
    · rw [if_pos e, e]; simp
    · rw [if_neg e]; simp [eSend, eBh]
  rw [e1, e2]
  cases ht : s.testBit k with
  | true =>
    have z := dj ht
    simp [eCd, eCdW, z]
  | false =>
    by_cases c : S 1 k = 0
    · simp [hk, c]
    · simp [hk, c, eCd, eCdW]
theorem eSli_and0 {s : Nat} : (0 : Nat) &&& s = 0 := Nat.zero_and s
theorem sM_worthBy {s : Nat} (hpd : iPD p d) (b : bV g D) (m : mV g D h) (bs : bS g S) (ms : mS S h) (l : jLt p L h) (hs : s < 2 ^ g) (hd : s &&& eAsk S g = 0) : ∃ h', fM_worthBy (jz s) h = some (jw (eWo D S L g s), h') ∧ eFr eQM h h' := by
  have hpd2 := hpd
  unfold iPD at hpd2
  obtain ⟨h1, e1, f1, l1, r1⟩ := sM_puts (h := h)
  have m1 : mV g D h1 := mV_fr (fun o k hk => f1.1 _ _ (by omega)) m
  have ms1 : mS S h1 := mS_fr (fun k => f1.1 _ _ (by omega)) ms
  have lt1 : jLt p L h1 := jLt_fr (fun o k hk => f1.1 o k (by omega)) l
  obtain ⟨h2, e2, f2, r2, l2⟩ := sM_sendsd (s := s) b m1 bs ms1 hs
  have m2 : mV g D h2 := mV_fr (fun o k hk => f2.1 _ _ (by omega)) m1
  have lt2 : jLt p L h2 := jLt_fr (fun o k hk => f2.1 o k (by omega)) lt1
  obtain ⟨h3, e3, f3⟩ := sM_worthNow hpd b m2 (eSd_b bs b.1 hs) r2 lt2
  obtain ⟨h4, e4, f4, l4, r4⟩ := sM_backs (h := h3)
  have F := eBack f1 l1 r1 f2 l2 f3 (fun o k t => by unfold eQN at t; omega) f4 l4 r4
  refine ⟨h4, ?_, eFr_mono F (fun o k t => by
    rcases t with t | t
    · unfold eQM; omega
    · exact eQN_M t)⟩
  have ew : eTens D (eSd S s) = eW D S s := by funext k; exact eTens_sd
  have eo : eSum (eOfM D (eSd S s) L g) g = eSum (eOfC D S L (eAsk S g ||| s)) g := eSum_congr (fun k hk => eOf_sd hs hd hk)
  rw [ew, eo] at e3
  unfold fM_worthBy
  rw [e1, Option.bind_some, e2, Option.bind_some, e3, Option.bind_some]
  simp only []
  rw [e4]
  rfl
theorem eOf_now : eSum (eOfM D S L g) g = eSum (eOfC D S L (eAsk S g ||| 0)) g :=
  eSum_congr (fun k hk => by
    have := eOf_sd (D := D) (S := S) (L := L) (g := g) (s := 0) (k := k) (Nat.two_pow_pos g) (by simp) hk
    exact this)
theorem eWo_now : eWoV D g (eTens D S) (eSum (eOfM D S L g) g) = eWo D S L g 0 := by
  unfold eWo
  rw [eOf_now, eW_0]
end EN
