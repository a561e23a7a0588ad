/-! on: both sides -/
theorem jhI_comm (h : jH) {o k o' k' : Nat} (e : ¬ (o = o' ∧ k = k')) (v v' : Int32) : jhI (jhI h o k v) o' k' v' = jhI (jhI h o' k' v') o k v := by
  refine Prod.ext (funext fun a => funext fun b => ?_) rfl
  rw [jhI_1, jhI_1, jhI_1, jhI_1]
  by_cases c : a = o ∧ b = k
  · rw [if_neg (by omega), if_pos c, if_pos c]
  · rw [if_neg c, if_neg c]
theorem jInv_cut {p d : Nat} {q : Nat → Nat} {h : jH} (V : jInv p d q h) : jInv p d q (jhI (jhI h 2 1 (jz 0)) 110 1 (jz 0)) := by
  obtain ⟨hpd, hq, v1, v2, v3, v4, v5, v6, v7⟩ := V
  obtain ⟨n, T, n1, n2, n3, n4⟩ := v2
  have hpd' := hpd
  unfold iPD at hpd'
  refine ⟨hpd, hq, eWd_fr ?_ v1, ⟨0, T, by omega, ?_, ?_, fun j hj => absurd hj (by omega)⟩, iFault_fr ?_ v3, iRef_fr ?_ v4, iSeed_fr ?_ ?_ v5, iPic_fr ?_ v6, iWed_fr hq ?_ ?_ v7⟩
  all_goals (intros; simp (disch := omega) only [jhI_1, jhI_2, jhL_1, jhL_2, if_neg, if_pos, eq_self, and_self, if_true, if_false, Nat.reduceEqDiff, false_and, and_false, true_and, and_true])
  all_goals rfl
section EO4
variable {p d g n : Nat} {q : Nat → Nat} {D S R : jD} {T : Nat → Nat} {h : jH}
theorem bS_rd (hg : g ≤ 8) (hT : ∀ k, k < 5 + 3 * g → T k < 256) (s : eSound (eRd T g) g) : bS g (eRd T g) := by
  have b := eRd_b hT
  have s8 := (eRd_8 hg).mpr s
  refine ⟨b.1, s.1, b.2.2.1, s.2.1, fun k hk => ?_⟩
  have u := b.2.2.2.2 k hk
  have v := s8.2.2.2.1 k hk
  have w := b.2.2.1
  have x := s.1
  refine ⟨u.1, v.1, u.2.2.1, ?_, v.2.1, fun hgk => by rw [eRd_1, if_neg (by omega)]⟩
  by_cases z : eRd T g 1 k = 0
  · have := v.2.1 z; omega
  · have z1 := v.2.2 z
    have z2 : eRd T g 0 2 ≠ -1 := fun t => z (s8.2.2.1.mp t k hk)
    omega
theorem sM_onl (hn0 : n ≤ 1600) (hg : g ≤ 8) (hng : n = 5 + 3 * g) (m : mV g D h) (hT : ∀ k, k < n → T k < 256 ∧ h.1 111 k = jz (T k)) {h1 : jH} (F : eFr (fun o' _ => o' = 148) h h1) (z0 : h1.1 148 0 = jz (eRd T g 0 1)) (z1 : h1.1 148 1 = jz (eRd T g 0 2)) (zz : ∀ k, g ≤ k → k < 8 → h1.1 148 (2 + 2 * k) = jz 0 ∧ h1.1 148 (2 + 2 * k + 1) = jz 0) : ∃ h', jlim fM_on_l69 (jz 0, h1) = some h' ∧ eFr (fun o' _ => o' = 148) h h' ∧ mS (eRd T g) h' := by
  have hl := jlim_cnt (step := fM_on_l69) (fun k (x : jH) => (jz k, x)) (fun k x => eFr (fun o' _ => o' = 148) h x ∧ x.1 148 0 = jz (eRd T g 0 1) ∧ x.1 148 1 = jz (eRd T g 0 2) ∧ (∀ j, j < k → x.1 148 (2 + 2 * j) = jz (eRd T g 1 j) ∧ x.1 148 (2 + 2 * j + 1) = jz (eRd T g 2 j)) ∧ ∀ j, g ≤ j → j < 8 → x.1 148 (2 + 2 * j) = jz 0 ∧ x.1 148 (2 + 2 * j + 1) = jz 0) (fun x => eFr (fun o' _ => o' = 148) h x ∧ mS (eRd T g) x) g g 0 (by omega) h1 ⟨F, z0, z1, fun j hj => by omega, zz⟩ ?_ ?_
  · exact hl
  · rintro k x _ hk ⟨q1, q2, q3, q4, q5⟩
    have mx : mV g D x := mV_fr (fun o k hk => q1.1 _ _ (by omega)) m
    have hT' : ∀ k, k < n → T k < 256 ∧ x.1 111 k = jz (T k) := fun k hk => ⟨(hT k hk).1, by rw [q1.1 _ _ (by omega)]; exact (hT k hk).2⟩
    have r1 : x.1 111 (4 + 3 * (k : Int)).toNat = jz (T (4 + 3 * k)) := by rw [show (4 + 3 * (k : Int)).toNat = 4 + 3 * k by omega]; exact (hT' _ (by omega)).2
    have r2 := sM_twoAt (T := T) (h := jhI x 148 (2 + 2 * k) (jz (T (4 + 3 * k)))) (k := 5 + 3 * k) (by omega) ⟨(hT' (5 + 3 * k) (by omega)).1, by rw [jhI_1, if_neg (by omega)]; exact (hT' (5 + 3 * k) (by omega)).2⟩ ⟨(hT' (5 + 3 * k + 1) (by omega)).1, by rw [jhI_1, if_neg (by omega)]; exact (hT' (5 + 3 * k + 1) (by omega)).2⟩
    rw [show ((5 + 3 * k : Nat) : Int) = 5 + 3 * (k : Int) by omega] at r2
    have i1 : (2 + 2 * (k : Int)).toNat = 2 + 2 * k := by omega
    have i2 : (2 + 2 * (k : Int) + 1).toNat = 2 + 2 * k + 1 := by omega
    refine ⟨jhI (jhI x 148 (2 + 2 * k) (jz (T (4 + 3 * k)))) 148 (2 + 2 * k + 1) (jz (eP T (5 + 3 * k))), ?_, eFr_I (S := fun o' _ => o' = 148) (eFr_I (S := fun o' _ => o' = 148) q1 rfl _) rfl _, ?_, ?_, fun j hj => ?_, fun j hj1 hj2 => ?_⟩
    · simp only [fM_on_l69, fM_on_l69_b]
      simp (disch := omega) only [Bool.false_eq_true, jz_lit, jz_neg, jz_nat, jz_add, jz_sub, jz_mul, jz_lt, jz_le, jz_eq, jz_ix, jin_z, jz_div, jzw, jwz, jw_lit, jw_neg, jw_add, jw_sub, jw_mul, jw_lt, jw_le, jw_eq, jw_div, Int.toNat_natCast, if_pos, if_neg, if_true, if_false, Option.bind_some, Int.natCast_add, Int.natCast_mul, Int.cast_ofNat_Int, Int.reduceToNat, Int.reduceAdd, Int.reduceMul, Int.reduceSub, Int.reduceNeg, Nat.reduceAdd, Nat.reduceMul, sM_guestMany mx, r1, i1, i2, r2]
    · simp (disch := omega) only [jhI_1, jhI_2, jhL_1, jhL_2, if_neg, if_pos, eq_self, and_self, if_true, if_false, Nat.reduceEqDiff, false_and, and_false, true_and, and_true, q2]
    · simp (disch := omega) only [jhI_1, jhI_2, jhL_1, jhL_2, if_neg, if_pos, eq_self, and_self, if_true, if_false, Nat.reduceEqDiff, false_and, and_false, true_and, and_true, q3]
    · by_cases e : j = k
      · subst e
        rw [eRd_1, eRd_2, if_pos hk, if_pos hk]
        constructor
        · rw [jhI_1, if_neg (by omega), jhI_1, if_pos ⟨rfl, rfl⟩]
        · rw [jhI_1, if_pos ⟨rfl, rfl⟩]
      · have := q4 j (by omega)
        constructor
        · rw [jhI_1, if_neg (by omega), jhI_1, if_neg (by omega)]; exact this.1
        · rw [jhI_1, if_neg (by omega), jhI_1, if_neg (by omega)]; exact this.2
    · have := q5 j hj1 hj2
      constructor
      · rw [jhI_1, if_neg (by omega), jhI_1, if_neg (by omega)]; exact this.1
      · rw [jhI_1, if_neg (by omega), jhI_1, if_neg (by omega)]; exact this.2
  · rintro x ⟨q1, q2, q3, q4, q5⟩
    have mx : mV g D x := mV_fr (fun o k hk => q1.1 _ _ (by omega)) m
    refine ⟨x, ?_, q1, q2, q3, fun k hk => ?_⟩
    · simp only [fM_on_l69, fM_on_l69_b]
      simp (disch := omega) only [Bool.false_eq_true, jz_lit, jz_neg, jz_nat, jz_add, jz_sub, jz_mul, jz_lt, jz_le, jz_eq, jz_ix, jin_z, jz_div, jzw, jwz, jw_lit, jw_neg, jw_add, jw_sub, jw_mul, jw_lt, jw_le, jw_eq, jw_div, Int.toNat_natCast, if_pos, if_neg, if_true, if_false, Option.bind_some, Int.natCast_add, Int.natCast_mul, Int.cast_ofNat_Int, Int.reduceToNat, Int.reduceAdd, Int.reduceMul, Int.reduceSub, Int.reduceNeg, Nat.reduceAdd, Nat.reduceMul, sM_guestMany mx]
    · by_cases c : k < g
      · exact q4 k c
      · rw [eRd_1, eRd_2, if_neg c, if_neg c]
        exact q5 k (by omega) hk
theorem sTp_cut0 (hn0 : n ≤ 1600) (hn : h.1 2 1 = jz n) : fTp_cut 2 0 h = jhI h 2 1 (jz 0) := by
  have : fTp_cut 2 (jz 0) h = jhI h 2 1 (jz 0) := by
    unfold fTp_cut
    rw [hn]
    simp (disch := omega) only [Bool.false_eq_true, jz_lit, jz_neg, jz_nat, jz_add, jz_sub, jz_mul, jz_lt, jz_le, jz_eq, jz_ix, jin_z, jz_div, jzw, jwz, jw_lit, jw_neg, jw_add, jw_sub, jw_mul, jw_lt, jw_le, jw_eq, jw_div, Int.toNat_natCast, if_pos, if_neg, if_true, if_false, Option.bind_some, Int.natCast_add, Int.natCast_mul, Int.cast_ofNat_Int, Int.reduceToNat, Int.reduceAdd, Int.reduceMul, Int.reduceSub, Int.reduceNeg, Nat.reduceAdd, Nat.reduceMul]
  exact this
theorem sA_on1 (hn0 : n ≤ 1600) (hg : g ≤ 8) (bv : bV g D) (cv : cV p g D h) (hn : h.1 2 1 = jz n) (hT : ∀ k, k < n → T k < 256 ∧ h.1 3 k = jz (T k)) (ok : D 0 10 ≠ 0 ∧ eOk T g n) : ∃ h', fA_on p h = some (jz 1, h') ∧ (∀ o k, ¬ (11 ≤ o ∧ o ≤ 16) → ¬ (o = 2 ∧ k = 1) → ¬ (o = 17 ∧ k = 1) → h'.1 o k = h.1 o k) ∧ (∀ o k, ¬ (11 ≤ o ∧ o ≤ 16) → h'.2 o k = h.2 o k) ∧ h'.1 2 1 = jz 0 ∧ h'.1 17 1 = jz 0 ∧ cS 11 (eRd T g) h' := by
  have b10 := bv.2.2.1.1
  have c10 := cv.2.2.1.1
  obtain ⟨h1, e1, f1, c1⟩ := (sSd_readImage hn0 hg hn hT).1 ok.2
  have k1 := sTp_cut0 (h := h1) hn0 (by rw [f1.1 _ _ (by omega)]; exact hn)
  obtain ⟨h3, e3, f3, c3⟩ := sSd_copyFrom (o := 11) (v := 14) (S := eRd T g) (h := jhI h1 2 1 (jz 0)) (by omega) (cS_fr (fun o k hk => by rw [jhI_1, if_neg (by omega)]) c1)
  refine ⟨jhI h3 17 1 (jz 0), ?_, fun o k x1 x2 x3 => ?_, fun o k x1 => ?_, ?_, ?_, cS_fr (fun o k hk => by rw [jhI_1, if_neg (by omega)]) c3⟩
  · have j36 : fA_on_j36 p 1 h1 = some (jz 1, jhI h3 17 1 (jz 0)) := by
      unfold fA_on_j36
      rw [k1, if_neg (by decide), e3]
      rfl
    unfold fA_on
    rw [c10, cv.1, e1]
    have ne : D 0 10 ≠ 0 := ok.1
    simp (disch := omega) only [Bool.false_eq_true, jz_lit, jz_neg, jz_nat, jz_add, jz_sub, jz_mul, jz_lt, jz_le, jz_eq, jz_ix, jin_z, jz_div, jzw, jwz, jw_lit, jw_neg, jw_add, jw_sub, jw_mul, jw_lt, jw_le, jw_eq, jw_div, Int.toNat_natCast, if_pos, if_neg, if_true, if_false, Option.bind_some, Int.natCast_add, Int.natCast_mul, Int.cast_ofNat_Int, Int.reduceToNat, Int.reduceAdd, Int.reduceMul, Int.reduceSub, Int.reduceNeg, Nat.reduceAdd, Nat.reduceMul]
    exact j36
  · rw [jhI_1, if_neg x3, f3.1 _ _ (by omega), jhI_1, if_neg x2, f1.1 _ _ (by omega)]
  · rw [jhI_2, f3.2 _ _ (by omega), jhI_2, f1.2 _ _ (by omega)]
  · rw [jhI_1, if_neg (by omega), f3.1 _ _ (by omega), jhI_1, if_pos ⟨rfl, rfl⟩]
  · rw [jhI_1, if_pos ⟨rfl, rfl⟩]
theorem sA_on0 (hn0 : n ≤ 1600) (hg : g ≤ 8) (bv : bV g D) (cv : cV p g D h) (hn : h.1 2 1 = jz n) (hT : ∀ k, k < n → T k < 256 ∧ h.1 3 k = jz (T k)) (ok : ¬ (D 0 10 ≠ 0 ∧ eOk T g n)) : ∃ h', eFr (fun o' _ => 14 ≤ o' ∧ o' ≤ 16) h h' ∧ fA_on p h = some (jz 0, jhI (jhI h' 2 1 (jz 0)) 97 5 ((jhI h' 2 1 (jz 0)).1 97 5 + 1)) := by
  have b10 := bv.2.2.1.1
  have c10 := cv.2.2.1.1
  have j36 : ∀ y : jH, y.1 2 1 = jz n → fA_on_j35 p y = some (jz 0, jhI (jhI y 2 1 (jz 0)) 97 5 ((jhI y 2 1 (jz 0)).1 97 5 + 1)) := by
    intro y hy
    have r : fA_refuse (jz 5) (jhI y 2 1 (jz 0)) = some (jhI (jhI y 2 1 (jz 0)) 97 5 ((jhI y 2 1 (jz 0)).1 97 5 + 1)) := sA_refuse (k := 5) (by omega) _
    have r' : fA_refuse 5 (jhI y 2 1 (jz 0)) = some (jhI (jhI y 2 1 (jz 0)) 97 5 ((jhI y 2 1 (jz 0)).1 97 5 + 1)) := r
    unfold fA_on_j35 fA_on_j36
    rw [sTp_cut0 hn0 hy, if_pos rfl, r', Option.bind_some]
    rfl
  unfold fA_on
  rw [c10, cv.1]
  by_cases d0 : D 0 10 = 0
  · refine ⟨h, eFr_refl _ h, ?_⟩
    rw [d0, if_pos (show jz 0 = 0 from rfl)]
    exact j36 h hn
  · obtain ⟨h1, e1, f1⟩ := (sSd_readImage hn0 hg hn hT).2 (fun t => ok ⟨d0, t⟩)
    refine ⟨h1, f1, ?_⟩
    rw [if_neg (by rw [show (0 : Int32) = jz 0 from rfl, jz_eq (by omega) (by omega) (by omega) (by omega)]; exact d0), e1, Option.bind_some, if_pos (show jz 0 = 0 from rfl)]
    exact j36 h1 (by rw [f1.1 _ _ (by omega)]; exact hn)
theorem sM_on0 (hn0 : n ≤ 1600) (hg : g ≤ 8) (bv : bV g D) (mv : mV g D h) (hn : h.1 110 1 = jz n) (hT : ∀ k, k < n → T k < 256 ∧ h.1 111 k = jz (T k)) (ok : ¬ (D 0 10 ≠ 0 ∧ eOk T g n)) : fM_on h = some (jz 0, jhI (jhI h 110 1 (jz 0)) 112 5 ((jhI h 110 1 (jz 0)).1 112 5 + 1)) := by
  have im := (sM_isImage (h := jhI h 110 1 (jz 0)) hn0 hg (mV_fr (fun o k hk => by rw [jhI_1, if_neg (by omega)]) mv) bv (fun k hk => ⟨(hT k hk).1, by rw [jhI_1, if_neg (by omega)]; exact (hT k hk).2⟩)).2 ok
  have im' : fM_isImage (jz n) (jhI h 110 1 0) = some (jz 0) := im
  unfold fM_on
  rw [hn, im', Option.bind_some, if_pos (show jz 0 = 0 from rfl), if_pos (by decide), if_pos (by decide)]
  rfl
theorem sM_on1 (hn0 : n ≤ 1600) (hg : g ≤ 8) (bv : bV g D) (mv : mV g D h) (bs : bS g S) (ms : mS S h) (hn : h.1 110 1 = jz n) (hT : ∀ k, k < n → T k < 256 ∧ h.1 111 k = jz (T k)) (ok : D 0 10 ≠ 0 ∧ eOk T g n) : ∃ h', fM_on h = some (jz 1, h') ∧ (∀ o k, ¬ (o = 148) → ¬ (o = 110 ∧ k = 1) → ¬ (o = 110 ∧ k = 56) → h'.1 o k = h.1 o k) ∧ (∀ o k, ¬ (o = 148) → h'.2 o k = h.2 o k) ∧ h'.1 110 1 = jz 0 ∧ h'.1 110 56 = jz 0 ∧ mS (eRd T g) h' := by
  have hng := ok.2.1
  have mv' : mV g D (jhI h 110 1 0) := mV_fr (fun o k hk => by rw [jhI_1, if_neg (by omega)]) mv
  have ms' : mS S (jhI h 110 1 0) := mS_fr (fun k => by rw [jhI_1, if_neg (by omega)]) ms
  have hT' : ∀ k, k < n → T k < 256 ∧ (jhI h 110 1 0).1 111 k = jz (T k) := fun k hk => ⟨(hT k hk).1, by rw [jhI_1, if_neg (by omega)]; exact (hT k hk).2⟩
  have im := (sM_isImage hn0 hg mv' bv hT').1 ok
  have w0 : (jhI h 110 1 0).1 110 1 = jz 0 := by rw [jhI_1, if_pos ⟨rfl, rfl⟩]; rfl
  have w1 : ∀ o k, ¬ (o = 110 ∧ k = 1) → (jhI h 110 1 0).1 o k = h.1 o k := fun o k x => by rw [jhI_1, if_neg x]
  have w2 : (jhI h 110 1 0).2 = h.2 := rfl
  unfold fM_on
  rw [hn]
  generalize jhI h 110 1 0 = y at *
  have t0 : fM_twoAt 0 y = some (jz (eP T 0)) := sM_twoAt (T := T) (h := y) (k := 0) (by omega) (hT' 0 (by omega)) (hT' 1 (by omega))
  have hT2 : ∀ k, k < n → T k < 256 ∧ (jhI y 148 0 (jz (eP T 0))).1 111 k = jz (T k) := fun k hk => ⟨(hT k hk).1, by rw [jhI_1, if_neg (by omega)]; exact (hT' k hk).2⟩
  have t2 : fM_twoAt 2 (jhI y 148 0 (jz (eP T 0))) = some (jz (eP T 2)) := sM_twoAt (T := T) (k := 2) (by omega) (hT2 2 (by omega)) (hT2 3 (by omega))
  have b2 := eP_lt (T := T) (k := 2) (hT 2 (by omega)).1 (hT 3 (by omega)).1
  obtain ⟨x, e, f, ms2⟩ := sM_onl hn0 hg hng mv' hT' (h1 := jhI (jhI y 148 0 (jz (eP T 0))) 148 1 (jz (eRd T g 0 2))) (eFr_I (S := fun o' _ => o' = 148) (eFr_I (S := fun o' _ => o' = 148) (eFr_refl _ y) rfl _) rfl _) (by rw [jhI_1, if_neg (by omega), jhI_1, if_pos ⟨rfl, rfl⟩]; rfl) (by rw [jhI_1, if_pos ⟨rfl, rfl⟩]) (fun k hk1 hk2 => by
    have s := bs.2.2.2.2 k hk2
    have s1 := s.2.2.2.2.2 hk1
    have s2 := s.2.2.2.2.1 s1
    have u := ms'.2.2 k hk2
    rw [s1, s2] at u
    constructor
    · rw [jhI_1, if_neg (by omega), jhI_1, if_neg (by omega)]; exact u.1
    · rw [jhI_1, if_neg (by omega), jhI_1, if_neg (by omega)]; exact u.2)
  have e' : jlim fM_on_l69 (0, jhI (jhI y 148 0 (jz (eP T 0))) 148 1 (jz (eRd T g 0 2))) = some x := e
  refine ⟨jhI x 110 56 (jz 0), ?_, fun o k x1 x2 x3 => ?_, fun o k x1 => ?_, ?_, ?_, mS_fr (fun k => by rw [jhI_1, if_neg (by omega)]) ms2⟩
  · have j66 : fM_on_j66 148 1 (jz (eRd T g 0 2)) (jhI y 148 0 (jz (eP T 0))) = some (jz 1, jhI x 110 56 (jz 0)) := by
      unfold fM_on_j66
      rw [jss_148, if_pos (by decide)]
      show (Option.bind (jlim fM_on_l69 (0, jhI (jhI y 148 0 (jz (eP T 0))) 148 1 (jz (eRd T g 0 2)))) _) = _
      rw [e']
      rfl
    have j66' : (if jz (eP T 2) = 65535 then fM_on_j66 148 1 (-1) (jhI y 148 0 (jz (eP T 0))) else fM_on_j66 148 1 (jz (eP T 2)) (jhI y 148 0 (jz (eP T 0)))) = some (jz 1, jhI x 110 56 (jz 0)) := by
      rw [eRd_F] at j66
      by_cases c : eP T 2 = 65535
      · rw [if_pos c] at j66
        rw [if_pos (show jz (eP T 2) = 65535 by rw [c]; rfl)]
        exact j66
      · rw [if_neg c] at j66
        rw [if_neg (by rw [show (65535 : Int32) = jz 65535 from rfl, jz_eq (by omega) (by omega) (by omega) (by omega)]; omega)]
        exact j66
    have t2' : fM_twoAt 2 (jhI y 148 (0 : Int32).toNatClampNeg (jz (eP T 0))) = some (jz (eP T 2)) := t2
    rw [im, Option.bind_some, if_neg (by decide), t0, Option.bind_some, if_pos (by decide), t2', Option.bind_some, Option.bind_some]
    exact j66'
  · rw [jhI_1, if_neg x3, f.1 _ _ x1, w1 _ _ x2]
  · rw [jhI_2, f.2 _ _ x1, w2]
  · rw [jhI_1, if_neg (by omega), f.1 _ _ (by omega)]; exact w0
  · rw [jhI_1, if_pos ⟨rfl, rfl⟩]
end EO4
theorem call_33 : jcal_33 jInv := by
  intro p d q h V
  have V0 := V
  obtain ⟨hpd, hq, v1, ⟨n, T, n1, n2, n3, n4⟩, v3, v4, v5, v6, ⟨g, D, S, L, w1, w2, w3⟩⟩ := V
  have hpd' := hpd
  unfold iPD at hpd'
  have hg : g ≤ 8 := w1.1.1
  by_cases ok : D 0 10 ≠ 0 ∧ eOk T g n
  · obtain ⟨h1, e1, f1, f2, f3, f4, f5⟩ := sA_on1 (p := p) n1 hg w1.1 w1.2.1 n2 (fun k hk => ⟨(n4 k hk).1, (n4 k hk).2.1⟩) ok
    have hng := ok.2.1
    obtain ⟨h2, e2, y1, y2, y3, y4, y5⟩ := sM_on1 (h := h1) n1 hg w1.1 (mV_fr (fun o k hk => f1 _ _ (by omega) (by omega) (by omega)) w1.2.2.1) w2.1 (mS_fr (fun k => f1 _ _ (by omega) (by omega) (by omega)) w2.2.2) (by rw [f1 _ _ (by omega) (by omega) (by omega)]; exact n3) (fun k hk => ⟨(n4 k hk).1, by rw [f1 _ _ (by omega) (by omega) (by omega)]; exact (n4 k hk).2.2⟩) ok
    have F : ∀ o k, ¬ (11 ≤ o ∧ o ≤ 16) → ¬ (o = 2 ∧ k = 1) → ¬ (o = 17 ∧ k = 1) → ¬ (o = 148) → ¬ (o = 110 ∧ k = 1) → ¬ (o = 110 ∧ k = 56) → h2.1 o k = h.1 o k := fun o k x1 x2 x3 x4 x5 x6 => by rw [y1 _ _ x4 x5 x6, f1 _ _ x1 x2 x3]
    have F2 : ∀ o k, ¬ o = 148 → ¬ (11 ≤ o ∧ o ≤ 16) → h2.2 o k = h.2 o k := fun o k x1 x2 => by rw [y2 _ _ x1, f2 _ _ x2]
    obtain ⟨c, w, p1, p2, p3, p4, p5, p6⟩ := w3
    refine ⟨_, e1, _, e2, rfl, hpd, hq, eWd_fr (fun o k hk => F _ _ (by omega) (by omega) (by omega) (by omega) (by omega) (by omega)) v1, ⟨0, T, by omega, ?_, y3, fun k hk => absurd hk (by omega)⟩, iFault_fr (fun o k hk => F _ _ (by omega) (by omega) (by omega) (by omega) (by omega) (by omega)) v3, iRef_fr (fun o k hk => F _ _ (by omega) (by omega) (by omega) (by omega) (by omega) (by omega)) v4, iSeed_fr (F _ _ (by omega) (by omega) (by omega) (by omega) (by omega) (by omega)) (F2 _ _ (by omega) (by omega)) v5, iPic_fr (fun o k hk => F _ _ (by omega) (by omega) (by omega) (by omega) (by omega) (by omega)) v6, ⟨g, D, eRd T g, L, iPlan_fr (fun o k hk => F _ _ ?_ ?_ ?_ ?_ ?_ ?_) (fun k _ => F2 _ _ (by omega) (by omega)) w1, ⟨bS_rd hg (fun k hk => (n4 k (by omega)).1) ok.2.2.2, cS_fr (fun o k hk => y1 _ _ (by omega) (by omega) (by omega)) f5, y5⟩, ⟨0, w, by omega, p2, ?_, y4, ?_, fun i hi => absurd hi (by omega)⟩⟩⟩
    · rw [y1 _ _ (by omega) (by omega) (by omega)]; exact f3
    rotate_left 6
    · rw [y1 _ _ (by omega) (by omega) (by omega)]; exact f4
    · rw [F _ _ (by omega) (by omega) (by omega) (by omega) (by omega) (by omega)]; exact p5
    all_goals (rcases hk with hk | hk | hk <;> omega)
  · obtain ⟨h1, f1, e1⟩ := sA_on0 (p := p) n1 hg w1.1 w1.2.1 n2 (fun k hk => ⟨(n4 k hk).1, (n4 k hk).2.1⟩) ok
    have V1 : jInv p d q h1 := jInv_fr V0 (eFr_mono f1 (fun o k hk => Or.inr (Or.inl hk)))
    have V2 := eInv_ref (jInv_cut V1) (k := 5) (by omega)
    have e2 := sM_on0 (h := jhI (jhI h1 2 1 (jz 0)) 97 5 ((jhI h1 2 1 (jz 0)).1 97 5 + 1)) n1 hg w1.1 (mV_fr (fun o k hk => by rw [jhI_1, if_neg (by omega), jhI_1, if_neg (by omega), f1.1 _ _ (by omega)]) w1.2.2.1) (by rw [jhI_1, if_neg (by omega), jhI_1, if_neg (by omega), f1.1 _ _ (by omega)]; exact n3) (fun k hk => ⟨(n4 k hk).1, by rw [jhI_1, if_neg (by omega), jhI_1, if_neg (by omega), f1.1 _ _ (by omega)]; exact (n4 k hk).2.2⟩) ok
    refine ⟨_, e1, _, e2, rfl, ?_⟩
    rw [jhI_comm (jhI h1 2 1 (jz 0)) (o := 97) (k := 5) (o' := 110) (k' := 1) (by omega)]
    exact V2
