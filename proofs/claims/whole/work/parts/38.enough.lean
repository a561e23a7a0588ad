/-! ENOUGH; standings set aside -/
section EE
variable {p d g : Nat} {D S : jD} {h : jH}
theorem sM_puts : ∃ h', fM_putsAside h = some h' ∧ eFr (fun o _ => o = 149) h h' ∧ h'.2 = h.2 ∧ ∀ k, k < 18 → h'.1 149 k = h.1 148 k := by
  unfold fM_putsAside
  have hl := jlim_cnt (step := fM_putsAside_l2) (fun k (x : jH) => (jz k, x)) (fun k x => eFr (fun o _ => o = 149) h x ∧ x.2 = h.2 ∧ ∀ j, j < k → x.1 149 j = h.1 148 j) (fun x => eFr (fun o _ => o = 149) h x ∧ x.2 = h.2 ∧ ∀ j, j < 18 → x.1 149 j = h.1 148 j) 18 18 0 (by omega) h ⟨eFr_refl _ _, rfl, fun j hj => by omega⟩ ?_ ?_
  · obtain ⟨x, e1, r⟩ := hl
    have e1' : jlim fM_putsAside_l2 (jz 0, h) = some x := e1
    exact ⟨x, by simp (disch := omega) only [Bool.false_eq_true, jz_lit, jz_neg, jz_nat, jz_add, jz_sub, jz_mul, jz_lt, jz_le, jz_eq, jz_ix, jin_z, jz_div, jzw, jwz, jw_lit, jw_neg, jw_add, jw_sub, jw_mul, jw_lt, jw_le, jw_eq, jw_div, Int.toNat_natCast, if_pos, if_neg, if_true, if_false, Option.bind_some, Int.natCast_add, Int.natCast_mul, Int.cast_ofNat_Int, Int.reduceToNat, Int.reduceAdd, Int.reduceMul, Int.reduceSub, Int.reduceNeg, Nat.reduceAdd, Nat.reduceMul, e1'], r⟩
  · rintro k x _ hk ⟨q1, q8, q2⟩
    have e : x.1 148 k = h.1 148 k := q1.1 _ _ (by omega)
    refine ⟨jhI x 149 k (h.1 148 k), ?_, eFr_I (S := fun o _ => o = 149) q1 rfl _, q8, fun j hj => ?_⟩
    · simp only [fM_putsAside_l2, fM_putsAside_l2_b]
      simp (disch := omega) only [Bool.false_eq_true, jz_lit, jz_neg, jz_nat, jz_add, jz_sub, jz_mul, jz_lt, jz_le, jz_eq, jz_ix, jin_z, jz_div, jzw, jwz, jw_lit, jw_neg, jw_add, jw_sub, jw_mul, jw_lt, jw_le, jw_eq, jw_div, Int.toNat_natCast, if_pos, if_neg, if_true, if_false, Option.bind_some, Int.natCast_add, Int.natCast_mul, Int.cast_ofNat_Int, Int.reduceToNat, Int.reduceAdd, Int.reduceMul, Int.reduceSub, Int.reduceNeg, Nat.reduceAdd, Nat.reduceMul, e]
    · by_cases f : j = k
      · subst f; rw [jhI_1, if_pos ⟨rfl, rfl⟩]
      · rw [jhI_1, if_neg (by omega)]; exact q2 j (by omega)
  · rintro x ⟨q1, q8, q2⟩
    refine ⟨x, ?_, q1, q8, q2⟩
    simp only [fM_putsAside_l2, fM_putsAside_l2_b]
    simp (disch := omega) only [Bool.false_eq_true, jz_lit, jz_neg, jz_nat, jz_add, jz_sub, jz_mul, jz_lt, jz_le, jz_eq, jz_ix, jin_z, jz_div, jzw, jwz, jw_lit, jw_neg, jw_add, jw_sub, jw_mul, jw_lt, jw_le, jw_eq, jw_div, Int.toNat_natCast, if_pos, if_neg, if_true, if_false, Option.bind_some, Int.natCast_add, Int.natCast_mul, Int.cast_ofNat_Int, Int.reduceToNat, Int.reduceAdd, Int.reduceMul, Int.reduceSub, Int.reduceNeg, Nat.reduceAdd, Nat.reduceMul]
theorem sM_backs : ∃ h', fM_takesBack h = some h' ∧ eFr (fun o k => o = 148 ∧ k < 18) h h' ∧ h'.2 = h.2 ∧ ∀ k, k < 18 → h'.1 148 k = h.1 149 k := by
  unfold fM_takesBack
  have hl := jlim_cnt (step := fM_takesBack_l2) (fun k (x : jH) => (jz k, x)) (fun k x => eFr (fun o k => o = 148 ∧ k < 18) h x ∧ x.2 = h.2 ∧ ∀ j, j < k → x.1 148 j = h.1 149 j) (fun x => eFr (fun o k => o = 148 ∧ k < 18) h x ∧ x.2 = h.2 ∧ ∀ j, j < 18 → x.1 148 j = h.1 149 j) 18 18 0 (by omega) h ⟨eFr_refl _ _, rfl, fun j hj => by omega⟩ ?_ ?_
  · obtain ⟨x, e1, r⟩ := hl
    have e1' : jlim fM_takesBack_l2 (jz 0, h) = some x := e1
    exact ⟨x, by simp (disch := omega) only [Bool.false_eq_true, jz_lit, jz_neg, jz_nat, jz_add, jz_sub, jz_mul, jz_lt, jz_le, jz_eq, jz_ix, jin_z, jz_div, jzw, jwz, jw_lit, jw_neg, jw_add, jw_sub, jw_mul, jw_lt, jw_le, jw_eq, jw_div, Int.toNat_natCast, if_pos, if_neg, if_true, if_false, Option.bind_some, Int.natCast_add, Int.natCast_mul, Int.cast_ofNat_Int, Int.reduceToNat, Int.reduceAdd, Int.reduceMul, Int.reduceSub, Int.reduceNeg, Nat.reduceAdd, Nat.reduceMul, e1'], r⟩
  · rintro k x _ hk ⟨q1, q8, q2⟩
    have e : x.1 149 k = h.1 149 k := q1.1 _ _ (by omega)
    refine ⟨jhI x 148 k (h.1 149 k), ?_, eFr_I (S := fun o k => o = 148 ∧ k < 18) q1 ⟨rfl, hk⟩ _, q8, fun j hj => ?_⟩
    · simp only [fM_takesBack_l2, fM_takesBack_l2_b]
      simp (disch := omega) only [Bool.false_eq_true, jz_lit, jz_neg, jz_nat, jz_add, jz_sub, jz_mul, jz_lt, jz_le, jz_eq, jz_ix, jin_z, jz_div, jzw, jwz, jw_lit, jw_neg, jw_add, jw_sub, jw_mul, jw_lt, jw_le, jw_eq, jw_div, Int.toNat_natCast, if_pos, if_neg, if_true, if_false, Option.bind_some, Int.natCast_add, Int.natCast_mul, Int.cast_ofNat_Int, Int.reduceToNat, Int.reduceAdd, Int.reduceMul, Int.reduceSub, Int.reduceNeg, Nat.reduceAdd, Nat.reduceMul, e]
    · by_cases f : j = k
      · subst f; rw [jhI_1, if_pos ⟨rfl, rfl⟩]
      · rw [jhI_1, if_neg (by omega)]; exact q2 j (by omega)
  · rintro x ⟨q1, q8, q2⟩
    refine ⟨x, ?_, q1, q8, q2⟩
    simp only [fM_takesBack_l2, fM_takesBack_l2_b]
    simp (disch := omega) only [Bool.false_eq_true, jz_lit, jz_neg, jz_nat, jz_add, jz_sub, jz_mul, jz_lt, jz_le, jz_eq, jz_ix, jin_z, jz_div, jzw, jwz, jw_lit, jw_neg, jw_add, jw_sub, jw_mul, jw_lt, jw_le, jw_eq, jw_div, Int.toNat_natCast, if_pos, if_neg, if_true, if_false, Option.bind_some, Int.natCast_add, Int.natCast_mul, Int.cast_ofNat_Int, Int.reduceToNat, Int.reduceAdd, Int.reduceMul, Int.reduceSub, Int.reduceNeg, Nat.reduceAdd, Nat.reduceMul]
/-- the standing, did cards go to s (none, too) -/
def eSd (S : jD) (s : Nat) : jD := if s = 0 then S else eSend S s
theorem eSd_b {s : Nat} (bs : bS g S) (hg : g ≤ 8) (hs : s < 2 ^ g) : bS g (eSd S s) := by
  unfold eSd
  split
  · exact bs
  · exact eSend_b bs hg hs
theorem sM_sendsd {s : Nat} (b : bV g D) (m : mV g D h) (bs : bS g S) (ms : mS S h) (hs : s < 2 ^ g) : ∃ h', fM_sends (jz s) h = some h' ∧ eFr (fun o k => o = 148 ∧ k < 18) h h' ∧ mS (eSd S s) h' ∧ h'.2 = h.2 := by
  by_cases e : s = 0
  · subst e
    refine ⟨h, ?_, eFr_refl _ _, ms, rfl⟩
    unfold fM_sends
    rw [show jz ((0 : Nat) : Int) = 0 from rfl, if_pos rfl]
  · have := sM_sends b m bs ms hs e
    unfold eSd
    rw [if_neg e]
    exact this
theorem eTens_sd {s k : Nat} : eTens D (eSd S s) k = eW D S s k := by
  unfold eSd eW
  by_cases e : s = 0
  · subst e; simp
  · rw [if_neg e]
    have e1 : eSend S s 1 k = if s.testBit k = true then 1 else S 1 k := by simp [eSend]
    unfold eTens
    rw [e1]
    by_cases c : s.testBit k = true
    · simp [c]
    · simp [c]
/-- what the reference does with a standing set aside: back again -/
theorem eBack {h1 h2 h3 h4 : jH} {T : Nat → Nat → Prop} (f1 : eFr (fun o _ => o = 149) h h1) (l1 : h1.2 = h.2) (r1 : ∀ k, k < 18 → h1.1 149 k = h.1 148 k) (f2 : eFr (fun o k => o = 148 ∧ k < 18) h1 h2) (l2 : h2.2 = h1.2) (f3 : eFr T h2 h3) (hT : ∀ o k, T o k → o ≠ 148 ∧ o ≠ 149) (f4 : eFr (fun o k => o = 148 ∧ k < 18) h3 h4) (l4 : h4.2 = h3.2) (r4 : ∀ k, k < 18 → h4.1 148 k = h3.1 149 k) : eFr (fun o k => o = 149 ∨ T o k) h h4 := by
  refine ⟨fun o k n => ?_, fun o k n => ?_⟩
  · by_cases e : o = 148 ∧ k < 18
    · obtain ⟨rfl, hk⟩ := e
      rw [r4 k hk, f3.1 _ _ (fun t => (hT _ _ t).2 rfl), f2.1 _ _ (by omega), r1 k hk]
    · rw [f4.1 _ _ e, f3.1 _ _ (fun t => n (Or.inr t)), f2.1 _ _ e, f1.1 _ _ (fun t => n (Or.inl t))]
  · rw [l4, f3.2 _ _ (fun t => n (Or.inr t)), l2, l1]
theorem sM_meanBy {s : Nat} (b : bV g D) (m : mV g D h) (bs : bS g S) (ms : mS S h) (hs : s < 2 ^ g) : ∃ h', fM_meanBy (jz s) h = some (jz (eMean (eW D S s) D g), h') ∧ eFr eQM h h' := by
  obtain ⟨h1, e1, f1, l1, r1⟩ := sM_puts (h := h)
  have m1 : mV g D h1 := mV_fr (fun o k hk => f1.1 _ _ (by omega)) m
  have ms1 : mS S h1 := mS_fr (fun k => f1.1 _ _ (by omega)) ms
  obtain ⟨h2, e2, f2, r2, l2⟩ := sM_sendsd (s := s) b m1 bs ms1 hs
  have m2 : mV g D h2 := mV_fr (fun o k hk => f2.1 _ _ (by omega)) m1
  have e3 := sM_meanTens b m2 (eSd_b bs b.1 hs) r2
  obtain ⟨h4, e4, f4, l4, r4⟩ := sM_backs (h := h2)
  have F := eBack f1 l1 r1 f2 l2 (eFr_refl (fun _ _ => False) h2) (fun _ _ t => t.elim) f4 l4 r4
  refine ⟨h4, ?_, eFr_mono F (fun o k t => Or.inl (by
    rcases t with t | t
    · omega
    · exact t.elim))⟩
  have ew : eTens D (eSd S s) = eW D S s := by funext k; exact eTens_sd
  rw [ew] at e3
  unfold fM_meanBy
  simp (disch := omega) only [Bool.false_eq_true, jz_lit, jz_neg, jz_nat, jz_add, jz_sub, jz_mul, jz_lt, jz_le, jz_eq, jz_ix, jin_z, jz_div, jzw, jwz, jw_lit, jw_neg, jw_add, jw_sub, jw_mul, jw_lt, jw_le, jw_eq, jw_div, Int.toNat_natCast, if_pos, if_neg, if_true, if_false, Option.bind_some, Int.natCast_add, Int.natCast_mul, Int.cast_ofNat_Int, Int.reduceToNat, Int.reduceAdd, Int.reduceMul, Int.reduceSub, Int.reduceNeg, Nat.reduceAdd, Nat.reduceMul, e1, e2, e3, e4]
/-- the set for so many, of those below k; -1: none -/
def eEn (D S : jD) (g : Nat) (n : Int) : Nat → Int
  | 0 => -1
  | k + 1 => if (eEn D S g n k = -1 ∨ jpc k < jpc (eEn D S g n k).toNat) ∧ eCan D S g k = true ∧ 10 * n ≤ eMean (eW D S k) D g then k else eEn D S g n k
theorem eEn_b {n : Int} : ∀ k : Nat, -1 ≤ eEn D S g n k ∧ eEn D S g n k < k := by
  intro k
  induction k with
  | zero => simp [eEn]
  | succ k ih => unfold eEn; split <;> omega
theorem eMean_b {T : Nat → Int} (b : bV g D) (hT : ∀ i, i < g → 0 ≤ T i ∧ T i ≤ 10) : 0 ≤ eMean T D g ∧ eMean T D g ≤ 320 := by
  have b0 := b.1
  have := eSum_b (f := fun k => T k * D 5 k) (m := 40) (n := g) (fun k hk => by
    have h1 := hT k hk
    have h2 := b.2.2.2.1 k hk
    refine ⟨Int.mul_nonneg h1.1 (by omega), ?_⟩
    have h3 : T k * D 5 k ≤ 10 * D 5 k := Int.mul_le_mul_of_nonneg_right h1.2 (by omega)
    show T k * D 5 k ≤ 40
    omega)
  unfold eMean
  omega
theorem jpc_b (s : Nat) : jpc s ≤ 8 := by unfold jpc; omega
theorem sCh_findEnough {n : Int} (b : bV g D) (c : cV p g D h) (bs : bS g S) (cs : cS 11 S h) (hn : 0 ≤ n ∧ n ≤ 32) : fCh_findEnough p (jz n) h = some (jz (eEn D S g n (2 ^ g))) := by
  have hN := two8 b.1
  have hA := sPn_allSets b c
  unfold fCh_findEnough
  have hl : jlim (fCh_findEnough_l4 p (jz n) h) (-1, 0) = some (jz (eEn D S g n (2 ^ g))) := by
    refine jlim_go (fun k => (jz (eEn D S g n k), jz k)) (2 ^ g) rfl (fun i hi => ?_) ?_
    · have w1 := sPy_canAsk (s := i) b c bs cs hi
      have w2 := sPy_meanTenths (s := i) b c bs cs (by omega)
      have w3 := sIn_bitCount (show i < 256 by omega)
      have be := eEn_b (D := D) (S := S) (g := g) (n := n) i
      have bm := eMean_b (T := eW D S i) b (fun k hk => eW_b b hk)
      have p1 := jpc_b i
      have es : eEn D S g n (i + 1) = if (eEn D S g n i = -1 ∨ jpc i < jpc (eEn D S g n i).toNat) ∧ eCan D S g i = true ∧ 10 * n ≤ eMean (eW D S i) D g then (i : Int) else eEn D S g n i := rfl
      simp only [fCh_findEnough_l4, fCh_findEnough_l4_b, fCh_findEnough_l4_j34, fCh_findEnough_l4_j39, fCh_findEnough_l4_j74, hA]
      generalize eEn D S g n i = r at *
      generalize 2 ^ g = N at *
      by_cases g1 : r = -1
      · by_cases g2 : eCan D S g i = true
        · by_cases g3 : 10 * n ≤ eMean (eW D S i) D g
          · have e1 : eEn D S g n (i + 1) = (i : Int) := by rw [es, if_pos ⟨Or.inl g1, g2, g3⟩]
            simp (disch := omega) only [Bool.false_eq_true, jz_lit, jz_neg, jz_nat, jz_add, jz_sub, jz_mul, jz_lt, jz_le, jz_eq, jz_ix, jin_z, jz_div, jzw, jwz, jw_lit, jw_neg, jw_add, jw_sub, jw_mul, jw_lt, jw_le, jw_eq, jw_div, Int.toNat_natCast, if_pos, if_neg, if_true, if_false, Option.bind_some, Int.natCast_add, Int.natCast_mul, Int.cast_ofNat_Int, Int.reduceToNat, Int.reduceAdd, Int.reduceMul, Int.reduceSub, Int.reduceNeg, Nat.reduceAdd, Nat.reduceMul, e1, g1, w1, g2, w2]
          · have e1 : eEn D S g n (i + 1) = r := by rw [es, if_neg (fun h => g3 h.2.2)]
            simp (disch := omega) only [Bool.false_eq_true, jz_lit, jz_neg, jz_nat, jz_add, jz_sub, jz_mul, jz_lt, jz_le, jz_eq, jz_ix, jin_z, jz_div, jzw, jwz, jw_lit, jw_neg, jw_add, jw_sub, jw_mul, jw_lt, jw_le, jw_eq, jw_div, Int.toNat_natCast, if_pos, if_neg, if_true, if_false, Option.bind_some, Int.natCast_add, Int.natCast_mul, Int.cast_ofNat_Int, Int.reduceToNat, Int.reduceAdd, Int.reduceMul, Int.reduceSub, Int.reduceNeg, Nat.reduceAdd, Nat.reduceMul, e1, g1, w1, g2, w2]
        · have e1 : eEn D S g n (i + 1) = r := by rw [es, if_neg (fun h => g2 h.2.1)]
          simp (disch := omega) only [Bool.false_eq_true, jz_lit, jz_neg, jz_nat, jz_add, jz_sub, jz_mul, jz_lt, jz_le, jz_eq, jz_ix, jin_z, jz_div, jzw, jwz, jw_lit, jw_neg, jw_add, jw_sub, jw_mul, jw_lt, jw_le, jw_eq, jw_div, Int.toNat_natCast, if_pos, if_neg, if_true, if_false, Option.bind_some, Int.natCast_add, Int.natCast_mul, Int.cast_ofNat_Int, Int.reduceToNat, Int.reduceAdd, Int.reduceMul, Int.reduceSub, Int.reduceNeg, Nat.reduceAdd, Nat.reduceMul, e1, g1, w1, g2]
      · obtain ⟨r, rfl⟩ : ∃ k : Nat, r = k := ⟨r.toNat, by omega⟩
        have w4 := sIn_bitCount (show r < 256 by omega)
        have p2 := jpc_b r
        rw [Int.toNat_natCast] at es
        by_cases g0 : jpc i < jpc r
        · by_cases g2 : eCan D S g i = true
          · by_cases g3 : 10 * n ≤ eMean (eW D S i) D g
            · have e1 : eEn D S g n (i + 1) = (i : Int) := by rw [es, if_pos ⟨Or.inr g0, g2, g3⟩]
              simp (disch := omega) only [Bool.false_eq_true, jz_lit, jz_neg, jz_nat, jz_add, jz_sub, jz_mul, jz_lt, jz_le, jz_eq, jz_ix, jin_z, jz_div, jzw, jwz, jw_lit, jw_neg, jw_add, jw_sub, jw_mul, jw_lt, jw_le, jw_eq, jw_div, Int.toNat_natCast, if_pos, if_neg, if_true, if_false, Option.bind_some, Int.natCast_add, Int.natCast_mul, Int.cast_ofNat_Int, Int.reduceToNat, Int.reduceAdd, Int.reduceMul, Int.reduceSub, Int.reduceNeg, Nat.reduceAdd, Nat.reduceMul, e1, w3, w4, w1, g2, w2]
            · have e1 : eEn D S g n (i + 1) = r := by rw [es, if_neg (fun h => g3 h.2.2)]
              simp (disch := omega) only [Bool.false_eq_true, jz_lit, jz_neg, jz_nat, jz_add, jz_sub, jz_mul, jz_lt, jz_le, jz_eq, jz_ix, jin_z, jz_div, jzw, jwz, jw_lit, jw_neg, jw_add, jw_sub, jw_mul, jw_lt, jw_le, jw_eq, jw_div, Int.toNat_natCast, if_pos, if_neg, if_true, if_false, Option.bind_some, Int.natCast_add, Int.natCast_mul, Int.cast_ofNat_Int, Int.reduceToNat, Int.reduceAdd, Int.reduceMul, Int.reduceSub, Int.reduceNeg, Nat.reduceAdd, Nat.reduceMul, e1, w3, w4, w1, g2, w2]
          · have e1 : eEn D S g n (i + 1) = r := by rw [es, if_neg (fun h => g2 h.2.1)]
            simp (disch := omega) only [Bool.false_eq_true, jz_lit, jz_neg, jz_nat, jz_add, jz_sub, jz_mul, jz_lt, jz_le, jz_eq, jz_ix, jin_z, jz_div, jzw, jwz, jw_lit, jw_neg, jw_add, jw_sub, jw_mul, jw_lt, jw_le, jw_eq, jw_div, Int.toNat_natCast, if_pos, if_neg, if_true, if_false, Option.bind_some, Int.natCast_add, Int.natCast_mul, Int.cast_ofNat_Int, Int.reduceToNat, Int.reduceAdd, Int.reduceMul, Int.reduceSub, Int.reduceNeg, Nat.reduceAdd, Nat.reduceMul, e1, w3, w4, w1, g2]
        · have e1 : eEn D S g n (i + 1) = r := by rw [es, if_neg (fun h => h.1.elim g1 g0)]
          simp (disch := omega) only [Bool.false_eq_true, jz_lit, jz_neg, jz_nat, jz_add, jz_sub, jz_mul, jz_lt, jz_le, jz_eq, jz_ix, jin_z, jz_div, jzw, jwz, jw_lit, jw_neg, jw_add, jw_sub, jw_mul, jw_lt, jw_le, jw_eq, jw_div, Int.toNat_natCast, if_pos, if_neg, if_true, if_false, Option.bind_some, Int.natCast_add, Int.natCast_mul, Int.cast_ofNat_Int, Int.reduceToNat, Int.reduceAdd, Int.reduceMul, Int.reduceSub, Int.reduceNeg, Nat.reduceAdd, Nat.reduceMul, e1, w3, w4]
    · simp only [fCh_findEnough_l4, fCh_findEnough_l4_b, hA]
      generalize 2 ^ g = N at *
      simp (disch := omega) only [Bool.false_eq_true, jz_lit, jz_neg, jz_nat, jz_add, jz_sub, jz_mul, jz_lt, jz_le, jz_eq, jz_ix, jin_z, jz_div, jzw, jwz, jw_lit, jw_neg, jw_add, jw_sub, jw_mul, jw_lt, jw_le, jw_eq, jw_div, Int.toNat_natCast, if_pos, if_neg, if_true, if_false, Option.bind_some, Int.natCast_add, Int.natCast_mul, Int.cast_ofNat_Int, Int.reduceToNat, Int.reduceAdd, Int.reduceMul, Int.reduceSub, Int.reduceNeg, Nat.reduceAdd, Nat.reduceMul]
  rw [hl]
  rfl
theorem sM_enoughl {n : Int} (b : bV g D) (m : mV g D h) (bs : bS g S) (ms : mS S h) (hn : 0 ≤ n ∧ n ≤ 32) : ∃ h', jlim (fM_enough_l25 (jz n)) (jz (-1), jz 0, h) = some (jz (eEn D S g n (2 ^ g)), h') ∧ eFr eQM h h' := by
  have hN := two8 b.1
  have hN1 : 1 ≤ 2 ^ g := Nat.one_le_two_pow
  have hl := jlim_cnt (step := fM_enough_l25 (jz n)) (fun k (x : Int32 × jH) => (x.1, jz k, x.2)) (fun k x => x.1 = jz (eEn D S g n k) ∧ eFr eQM h x.2) (fun x => x.1 = jz (eEn D S g n (2 ^ g)) ∧ eFr eQM h x.2) (2 ^ g) (2 ^ g) 0 (by omega) (jz (-1), h) ⟨rfl, eFr_refl _ _⟩ ?_ ?_
  · obtain ⟨x, e1, r0, r1⟩ := hl
    refine ⟨x.2, ?_, r1⟩
    rw [← r0]
    exact e1
  · rintro i ⟨v, x⟩ _ hi ⟨q0, q1⟩
    simp only at q0 q1
    have m1 := eQM_m q1 m
    have ms1 := eQM_ms q1 ms
    have hA := sM_allGuests b m1
    have w1 := sM_canSend (s := i) b m1 bs ms1 hi
    obtain ⟨y, w2, f2⟩ := sM_meanBy (s := i) b m1 bs ms1 hi
    have w3 := sM_bits (show i < 256 by omega) x
    have be := eEn_b (D := D) (S := S) (g := g) (n := n) i
    have bm := eMean_b (T := eW D S i) b (fun k hk => eW_b b hk)
    have p1 := jpc_b i
    have es : eEn D S g n (i + 1) = if (eEn D S g n i = -1 ∨ jpc i < jpc (eEn D S g n i).toNat) ∧ eCan D S g i = true ∧ 10 * n ≤ eMean (eW D S i) D g then (i : Int) else eEn D S g n i := rfl
    simp only [fM_enough_l25, fM_enough_l25_b, fM_enough_l25_j49, fM_enough_l25_j71, hA, q0]
    generalize eEn D S g n i = r at *
    generalize 2 ^ g = N at *
    by_cases g1 : r = -1
    · by_cases g2 : eCan D S g i = true
      · by_cases g3 : 10 * n ≤ eMean (eW D S i) D g
        · have e1 : eEn D S g n (i + 1) = (i : Int) := by rw [es, if_pos ⟨Or.inl g1, g2, g3⟩]
          refine ⟨(jz i, y), ?_, by rw [e1], eFr_trans q1 f2⟩
          simp (disch := omega) only [Bool.false_eq_true, jz_lit, jz_neg, jz_nat, jz_add, jz_sub, jz_mul, jz_lt, jz_le, jz_eq, jz_ix, jin_z, jz_div, jzw, jwz, jw_lit, jw_neg, jw_add, jw_sub, jw_mul, jw_lt, jw_le, jw_eq, jw_div, Int.toNat_natCast, if_pos, if_neg, if_true, if_false, Option.bind_some, Int.natCast_add, Int.natCast_mul, Int.cast_ofNat_Int, Int.reduceToNat, Int.reduceAdd, Int.reduceMul, Int.reduceSub, Int.reduceNeg, Nat.reduceAdd, Nat.reduceMul, g1, w1, g2, w2]
        · have e1 : eEn D S g n (i + 1) = r := by rw [es, if_neg (fun h => g3 h.2.2)]
          refine ⟨(jz r, y), ?_, by rw [e1], eFr_trans q1 f2⟩
          simp (disch := omega) only [Bool.false_eq_true, jz_lit, jz_neg, jz_nat, jz_add, jz_sub, jz_mul, jz_lt, jz_le, jz_eq, jz_ix, jin_z, jz_div, jzw, jwz, jw_lit, jw_neg, jw_add, jw_sub, jw_mul, jw_lt, jw_le, jw_eq, jw_div, Int.toNat_natCast, if_pos, if_neg, if_true, if_false, Option.bind_some, Int.natCast_add, Int.natCast_mul, Int.cast_ofNat_Int, Int.reduceToNat, Int.reduceAdd, Int.reduceMul, Int.reduceSub, Int.reduceNeg, Nat.reduceAdd, Nat.reduceMul, g1, w1, g2, w2]
      · have e1 : eEn D S g n (i + 1) = r := by rw [es, if_neg (fun h => g2 h.2.1)]
        refine ⟨(jz r, x), ?_, by rw [e1], q1⟩
        simp (disch := omega) only [Bool.false_eq_true, jz_lit, jz_neg, jz_nat, jz_add, jz_sub, jz_mul, jz_lt, jz_le, jz_eq, jz_ix, jin_z, jz_div, jzw, jwz, jw_lit, jw_neg, jw_add, jw_sub, jw_mul, jw_lt, jw_le, jw_eq, jw_div, Int.toNat_natCast, if_pos, if_neg, if_true, if_false, Option.bind_some, Int.natCast_add, Int.natCast_mul, Int.cast_ofNat_Int, Int.reduceToNat, Int.reduceAdd, Int.reduceMul, Int.reduceSub, Int.reduceNeg, Nat.reduceAdd, Nat.reduceMul, g1, w1, g2]
    · obtain ⟨r, rfl⟩ : ∃ k : Nat, r = k := ⟨r.toNat, by omega⟩
      have w4 := sM_bits (show r < 256 by omega) x
      have p2 := jpc_b r
      rw [Int.toNat_natCast] at es
      by_cases g0 : jpc i < jpc r
      · by_cases g2 : eCan D S g i = true
        · by_cases g3 : 10 * n ≤ eMean (eW D S i) D g
          · have e1 : eEn D S g n (i + 1) = (i : Int) := by rw [es, if_pos ⟨Or.inr g0, g2, g3⟩]
            refine ⟨(jz i, y), ?_, by rw [e1], eFr_trans q1 f2⟩
            simp (disch := omega) only [Bool.false_eq_true, jz_lit, jz_neg, jz_nat, jz_add, jz_sub, jz_mul, jz_lt, jz_le, jz_eq, jz_ix, jin_z, jz_div, jzw, jwz, jw_lit, jw_neg, jw_add, jw_sub, jw_mul, jw_lt, jw_le, jw_eq, jw_div, Int.toNat_natCast, if_pos, if_neg, if_true, if_false, Option.bind_some, Int.natCast_add, Int.natCast_mul, Int.cast_ofNat_Int, Int.reduceToNat, Int.reduceAdd, Int.reduceMul, Int.reduceSub, Int.reduceNeg, Nat.reduceAdd, Nat.reduceMul, w3, w4, w1, g2, w2]
          · have e1 : eEn D S g n (i + 1) = r := by rw [es, if_neg (fun h => g3 h.2.2)]
            refine ⟨(jz r, y), ?_, by rw [e1], eFr_trans q1 f2⟩
            simp (disch := omega) only [Bool.false_eq_true, jz_lit, jz_neg, jz_nat, jz_add, jz_sub, jz_mul, jz_lt, jz_le, jz_eq, jz_ix, jin_z, jz_div, jzw, jwz, jw_lit, jw_neg, jw_add, jw_sub, jw_mul, jw_lt, jw_le, jw_eq, jw_div, Int.toNat_natCast, if_pos, if_neg, if_true, if_false, Option.bind_some, Int.natCast_add, Int.natCast_mul, Int.cast_ofNat_Int, Int.reduceToNat, Int.reduceAdd, Int.reduceMul, Int.reduceSub, Int.reduceNeg, Nat.reduceAdd, Nat.reduceMul, w3, w4, w1, g2, w2]
        · have e1 : eEn D S g n (i + 1) = r := by rw [es, if_neg (fun h => g2 h.2.1)]
          refine ⟨(jz r, x), ?_, by rw [e1], q1⟩
          simp (disch := omega) only [Bool.false_eq_true, jz_lit, jz_neg, jz_nat, jz_add, jz_sub, jz_mul, jz_lt, jz_le, jz_eq, jz_ix, jin_z, jz_div, jzw, jwz, jw_lit, jw_neg, jw_add, jw_sub, jw_mul, jw_lt, jw_le, jw_eq, jw_div, Int.toNat_natCast, if_pos, if_neg, if_true, if_false, Option.bind_some, Int.natCast_add, Int.natCast_mul, Int.cast_ofNat_Int, Int.reduceToNat, Int.reduceAdd, Int.reduceMul, Int.reduceSub, Int.reduceNeg, Nat.reduceAdd, Nat.reduceMul, w3, w4, w1, g2]
      · have e1 : eEn D S g n (i + 1) = r := by rw [es, if_neg (fun h => h.1.elim g1 g0)]
        refine ⟨(jz r, x), ?_, by rw [e1], q1⟩
        simp (disch := omega) only [Bool.false_eq_true, jz_lit, jz_neg, jz_nat, jz_add, jz_sub, jz_mul, jz_lt, jz_le, jz_eq, jz_ix, jin_z, jz_div, jzw, jwz, jw_lit, jw_neg, jw_add, jw_sub, jw_mul, jw_lt, jw_le, jw_eq, jw_div, Int.toNat_natCast, if_pos, if_neg, if_true, if_false, Option.bind_some, Int.natCast_add, Int.natCast_mul, Int.cast_ofNat_Int, Int.reduceToNat, Int.reduceAdd, Int.reduceMul, Int.reduceSub, Int.reduceNeg, Nat.reduceAdd, Nat.reduceMul, w3, w4]
  · rintro ⟨v, x⟩ ⟨q0, q1⟩
    simp only at q0 q1
    have hA := sM_allGuests b (eQM_m q1 m)
    refine ⟨(v, x), ?_, q0, q1⟩
    simp only [fM_enough_l25, fM_enough_l25_b, hA]
    generalize 2 ^ g = N at *
    simp (disch := omega) only [Bool.false_eq_true, jz_lit, jz_neg, jz_nat, jz_add, jz_sub, jz_mul, jz_lt, jz_le, jz_eq, jz_ix, jin_z, jz_div, jzw, jwz, jw_lit, jw_neg, jw_add, jw_sub, jw_mul, jw_lt, jw_le, jw_eq, jw_div, Int.toNat_natCast, if_pos, if_neg, if_true, if_false, Option.bind_some, Int.natCast_add, Int.natCast_mul, Int.cast_ofNat_Int, Int.reduceToNat, Int.reduceAdd, Int.reduceMul, Int.reduceSub, Int.reduceNeg, Nat.reduceAdd, Nat.reduceMul]
end EE
theorem call_18 : jcal_18 jInv := by
  intro p d q h a0 V
  have V0 := V
  obtain ⟨hpd, hq, v1, v2, v3, v4, v5, v6, g, D, S, L, ⟨b, c, m, w1, w2, w3, w4⟩, ⟨bs, cs, ms⟩, -⟩ := V
  have hb_a := jz_bd a0
  generalize ha_a : a0.toInt = a at hb_a
  obtain rfl : a0 = jz a := by rw [← ha_a]; exact jz_self a0
  clear ha_a
  have ct := c.2.2.1.1
  have mt := m.2.2.1.1
  rcases eTold b with ht | ht
  · refine ⟨jz (-1), ?_, (jz (-1), h), ?_, rfl, V0⟩
    · unfold fA_enough; rw [ct, ht]; simp (disch := omega) only [Bool.false_eq_true, jz_lit, jz_neg, jz_nat, jz_add, jz_sub, jz_mul, jz_lt, jz_le, jz_eq, jz_ix, jin_z, jz_div, jzw, jwz, jw_lit, jw_neg, jw_add, jw_sub, jw_mul, jw_lt, jw_le, jw_eq, jw_div, Int.toNat_natCast, if_pos, if_neg, if_true, if_false, Option.bind_some, Int.natCast_add, Int.natCast_mul, Int.cast_ofNat_Int, Int.reduceToNat, Int.reduceAdd, Int.reduceMul, Int.reduceSub, Int.reduceNeg, Nat.reduceAdd, Nat.reduceMul]
    · unfold fM_enough; rw [mt, ht]; simp (disch := omega) only [Bool.false_eq_true, jz_lit, jz_neg, jz_nat, jz_add, jz_sub, jz_mul, jz_lt, jz_le, jz_eq, jz_ix, jin_z, jz_div, jzw, jwz, jw_lit, jw_neg, jw_add, jw_sub, jw_mul, jw_lt, jw_le, jw_eq, jw_div, Int.toNat_natCast, if_pos, if_neg, if_true, if_false, Option.bind_some, Int.natCast_add, Int.natCast_mul, Int.cast_ofNat_Int, Int.reduceToNat, Int.reduceAdd, Int.reduceMul, Int.reduceSub, Int.reduceNeg, Nat.reduceAdd, Nat.reduceMul]
  by_cases ga : 0 ≤ a ∧ a ≤ 32
  · have r1 := sCh_findEnough (n := a) b c bs cs ga
    obtain ⟨h1, r2, f2⟩ := sM_enoughl (n := a) b m bs ms ga
    refine ⟨jz (eEn D S g a (2 ^ g)), ?_, (jz (eEn D S g a (2 ^ g)), h1), ?_, rfl, jInv_q V0 (eFr_refl _ _) f2⟩
    · unfold fA_enough; rw [ct, ht]; simp (disch := omega) only [Bool.false_eq_true, jz_lit, jz_neg, jz_nat, jz_add, jz_sub, jz_mul, jz_lt, jz_le, jz_eq, jz_ix, jin_z, jz_div, jzw, jwz, jw_lit, jw_neg, jw_add, jw_sub, jw_mul, jw_lt, jw_le, jw_eq, jw_div, Int.toNat_natCast, if_pos, if_neg, if_true, if_false, Option.bind_some, Int.natCast_add, Int.natCast_mul, Int.cast_ofNat_Int, Int.reduceToNat, Int.reduceAdd, Int.reduceMul, Int.reduceSub, Int.reduceNeg, Nat.reduceAdd, Nat.reduceMul, r1]
    · unfold fM_enough; rw [mt, ht]; simp (disch := omega) only [Bool.false_eq_true, jz_lit, jz_neg, jz_nat, jz_add, jz_sub, jz_mul, jz_lt, jz_le, jz_eq, jz_ix, jin_z, jz_div, jzw, jwz, jw_lit, jw_neg, jw_add, jw_sub, jw_mul, jw_lt, jw_le, jw_eq, jw_div, Int.toNat_natCast, if_pos, if_neg, if_true, if_false, Option.bind_some, Int.natCast_add, Int.natCast_mul, Int.cast_ofNat_Int, Int.reduceToNat, Int.reduceAdd, Int.reduceMul, Int.reduceSub, Int.reduceNeg, Nat.reduceAdd, Nat.reduceMul, sM_isIn, r2]
  · refine ⟨jz (-1), ?_, (jz (-1), h), ?_, rfl, V0⟩
    · unfold fA_enough; rw [ct, ht]
      by_cases e : a < 0
      · simp (disch := omega) only [Bool.false_eq_true, jz_lit, jz_neg, jz_nat, jz_add, jz_sub, jz_mul, jz_lt, jz_le, jz_eq, jz_ix, jin_z, jz_div, jzw, jwz, jw_lit, jw_neg, jw_add, jw_sub, jw_mul, jw_lt, jw_le, jw_eq, jw_div, Int.toNat_natCast, if_pos, if_neg, if_true, if_false, Option.bind_some, Int.natCast_add, Int.natCast_mul, Int.cast_ofNat_Int, Int.reduceToNat, Int.reduceAdd, Int.reduceMul, Int.reduceSub, Int.reduceNeg, Nat.reduceAdd, Nat.reduceMul]
      · simp (disch := omega) only [Bool.false_eq_true, jz_lit, jz_neg, jz_nat, jz_add, jz_sub, jz_mul, jz_lt, jz_le, jz_eq, jz_ix, jin_z, jz_div, jzw, jwz, jw_lit, jw_neg, jw_add, jw_sub, jw_mul, jw_lt, jw_le, jw_eq, jw_div, Int.toNat_natCast, if_pos, if_neg, if_true, if_false, Option.bind_some, Int.natCast_add, Int.natCast_mul, Int.cast_ofNat_Int, Int.reduceToNat, Int.reduceAdd, Int.reduceMul, Int.reduceSub, Int.reduceNeg, Nat.reduceAdd, Nat.reduceMul]
    · unfold fM_enough; rw [mt, ht]; simp (disch := omega) only [Bool.false_eq_true, jz_lit, jz_neg, jz_nat, jz_add, jz_sub, jz_mul, jz_lt, jz_le, jz_eq, jz_ix, jin_z, jz_div, jzw, jwz, jw_lit, jw_neg, jw_add, jw_sub, jw_mul, jw_lt, jw_le, jw_eq, jw_div, Int.toNat_natCast, if_pos, if_neg, if_true, if_false, Option.bind_some, Int.natCast_add, Int.natCast_mul, Int.cast_ofNat_Int, Int.reduceToNat, Int.reduceAdd, Int.reduceMul, Int.reduceSub, Int.reduceNeg, Nat.reduceAdd, Nat.reduceMul, sM_isIn]
