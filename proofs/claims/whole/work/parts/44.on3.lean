/-! on: the call -/
def eOk (T : Nat → Nat) (g n : Nat) : Prop := n = 5 + 3 * g ∧ T (4 + 3 * g) = eCk T (4 + 3 * g) ∧ eSound (eRd T g) g
section EO3
variable {p g n : Nat} {D S R : jD} {T : Nat → Nat} {h : jH}
theorem sM_isImage (hn0 : n ≤ 1600) (hg : g ≤ 8) (m : mV g D h) (bv : bV g D) (hT : ∀ k, k < n → T k < 256 ∧ h.1 111 k = jz (T k)) : (D 0 10 ≠ 0 ∧ eOk T g n → fM_isImage (jz n) h = some (jz 1)) ∧ (¬ (D 0 10 ≠ 0 ∧ eOk T g n) → fM_isImage (jz n) h = some (jz 0)) := by
  have told := m.2.2.1.1
  have tb := bv.2.2.1.1
  have mg := sM_guestMany m
  have core : ∀ r : Int, (D 0 10 ≠ 0 ∧ eOk T g n → r = 1) → (¬ (D 0 10 ≠ 0 ∧ eOk T g n) → r = 0) → fM_isImage (jz n) h = some (jz r) := by
    intro r y1 y2
    unfold fM_isImage
    rw [told, mg]
    by_cases d0 : D 0 10 = 0
    · rw [y2 (fun t => t.1 d0)]
      simp (disch := omega) only [Bool.false_eq_true, jz_lit, jz_neg, jz_nat, jz_add, jz_sub, jz_mul, jz_lt, jz_le, jz_eq, jz_ix, jin_z, jz_div, jzw, jwz, jw_lit, jw_neg, jw_add, jw_sub, jw_mul, jw_lt, jw_le, jw_eq, jw_div, Int.toNat_natCast, if_pos, if_neg, if_true, if_false, Option.bind_some, Int.natCast_add, Int.natCast_mul, Int.cast_ofNat_Int, Int.reduceToNat, Int.reduceAdd, Int.reduceMul, Int.reduceSub, Int.reduceNeg, Nat.reduceAdd, Nat.reduceMul]
    by_cases hn : n = 5 + 3 * g
    · have ck := sM_checked (h := h) (o := 111) (c := 1600) (n := 4 + 3 * g) (f := T) jss_111 (by omega) (by omega) (fun k hk => hT k (by omega))
      have ck' : fM_checked 111 (jz (4 + 3 * (g : Int))) h = some (jz (eCk T (4 + 3 * g))) := by rw [show 4 + 3 * (g : Int) = ((4 + 3 * g : Nat) : Int) by omega]; exact ck
      have ckb := eCk_lt T (4 + 3 * g)
      obtain ⟨l1, l2⟩ := hT (4 + 3 * g) (by omega)
      have l2' : h.1 111 (4 + 3 * (g : Int)).toNat = jz (T (4 + 3 * g)) := by rw [show (4 + 3 * (g : Int)).toNat = 4 + 3 * g by omega]; exact l2
      have sub : (n : Int) - 1 = 4 + 3 * (g : Int) := by omega
      have tw : ∀ k, k + 1 < n → fM_twoAt (jz k) h = some (jz (eP T k)) ∧ eP T k ≤ 65535 := fun k hk => ⟨sM_twoAt (by omega) (hT k (by omega)) (hT (k + 1) hk), eP_lt (hT k (by omega)).1 (hT (k + 1) hk).1⟩
      obtain ⟨t0, u0⟩ := tw 0 (by omega)
      obtain ⟨t2, u2⟩ := tw 2 (by omega)
      have t0' : fM_twoAt (jz 0) h = some (jz (eP T 0)) := t0
      have t2' : fM_twoAt (jz 2) h = some (jz (eP T 2)) := t2
      clear t0 t2
      have es := eRd_told (T := T) (g := g) (fun k hk => (hT k (by omega)).1)
      have tl := sM_told hn hg m hT
      have ek : eOk T g n ↔ T (4 + 3 * g) = eCk T (4 + 3 * g) ∧ (eP T 0 ≤ 999 ∧ (eP T 2 = 65535 ∨ eP T 2 ≤ eP T 0) ∧ eTld T g) := by
        unfold eOk
        rw [es]
        exact ⟨fun t => t.2, fun t => ⟨hn, t⟩⟩
      have ne : (n : Int) = 5 + 3 * (g : Int) := by omega
      generalize eCk T (4 + 3 * g) = ckv at *
      generalize T (4 + 3 * g) = lst at *
      generalize eP T 0 = W at *
      generalize eP T 2 = F at *
      by_cases cc : lst = ckv
      · by_cases cw : 999 < W
        · rw [y2 (fun t => by have := ((ek.mp t.2).2).1; omega)]
          simp (disch := omega) only [Bool.false_eq_true, jz_lit, jz_neg, jz_nat, jz_add, jz_sub, jz_mul, jz_lt, jz_le, jz_eq, jz_ix, jin_z, jz_div, jzw, jwz, jw_lit, jw_neg, jw_add, jw_sub, jw_mul, jw_lt, jw_le, jw_eq, jw_div, Int.toNat_natCast, if_pos, if_neg, if_true, if_false, Option.bind_some, Int.natCast_add, Int.natCast_mul, Int.cast_ofNat_Int, Int.reduceToNat, Int.reduceAdd, Int.reduceMul, Int.reduceSub, Int.reduceNeg, Nat.reduceAdd, Nat.reduceMul, sub, ck', l2', t0']
        by_cases cf : F = 65535
        · by_cases ct : eTld T g
          · have tl1 := tl.1 ct
            rw [y1 ⟨d0, ek.mpr ⟨cc, by omega, Or.inl cf, ct⟩⟩]
            unfold fM_isImage_j75
            simp (disch := omega) only [Bool.false_eq_true, jz_lit, jz_neg, jz_nat, jz_add, jz_sub, jz_mul, jz_lt, jz_le, jz_eq, jz_ix, jin_z, jz_div, jzw, jwz, jw_lit, jw_neg, jw_add, jw_sub, jw_mul, jw_lt, jw_le, jw_eq, jw_div, Int.toNat_natCast, if_pos, if_neg, if_true, if_false, Option.bind_some, Int.natCast_add, Int.natCast_mul, Int.cast_ofNat_Int, Int.reduceToNat, Int.reduceAdd, Int.reduceMul, Int.reduceSub, Int.reduceNeg, Nat.reduceAdd, Nat.reduceMul, sub, ck', l2', t0', t2', tl1]
          · have tl1 := tl.2 ct
            rw [y2 (fun t => ct (ek.mp t.2).2.2.2)]
            unfold fM_isImage_j75
            simp (disch := omega) only [Bool.false_eq_true, jz_lit, jz_neg, jz_nat, jz_add, jz_sub, jz_mul, jz_lt, jz_le, jz_eq, jz_ix, jin_z, jz_div, jzw, jwz, jw_lit, jw_neg, jw_add, jw_sub, jw_mul, jw_lt, jw_le, jw_eq, jw_div, Int.toNat_natCast, if_pos, if_neg, if_true, if_false, Option.bind_some, Int.natCast_add, Int.natCast_mul, Int.cast_ofNat_Int, Int.reduceToNat, Int.reduceAdd, Int.reduceMul, Int.reduceSub, Int.reduceNeg, Nat.reduceAdd, Nat.reduceMul, sub, ck', l2', t0', t2', tl1]
        · by_cases cx : W < F
          · rw [y2 (fun t => by have := (ek.mp t.2).2.2.1; omega)]
            simp (disch := omega) only [Bool.false_eq_true, jz_lit, jz_neg, jz_nat, jz_add, jz_sub, jz_mul, jz_lt, jz_le, jz_eq, jz_ix, jin_z, jz_div, jzw, jwz, jw_lit, jw_neg, jw_add, jw_sub, jw_mul, jw_lt, jw_le, jw_eq, jw_div, Int.toNat_natCast, if_pos, if_neg, if_true, if_false, Option.bind_some, Int.natCast_add, Int.natCast_mul, Int.cast_ofNat_Int, Int.reduceToNat, Int.reduceAdd, Int.reduceMul, Int.reduceSub, Int.reduceNeg, Nat.reduceAdd, Nat.reduceMul, sub, ck', l2', t0', t2']
          · by_cases ct : eTld T g
            · have tl1 := tl.1 ct
              rw [y1 ⟨d0, ek.mpr ⟨cc, by omega, Or.inr (by omega), ct⟩⟩]
              unfold fM_isImage_j75
              simp (disch := omega) only [Bool.false_eq_true, jz_lit, jz_neg, jz_nat, jz_add, jz_sub, jz_mul, jz_lt, jz_le, jz_eq, jz_ix, jin_z, jz_div, jzw, jwz, jw_lit, jw_neg, jw_add, jw_sub, jw_mul, jw_lt, jw_le, jw_eq, jw_div, Int.toNat_natCast, if_pos, if_neg, if_true, if_false, Option.bind_some, Int.natCast_add, Int.natCast_mul, Int.cast_ofNat_Int, Int.reduceToNat, Int.reduceAdd, Int.reduceMul, Int.reduceSub, Int.reduceNeg, Nat.reduceAdd, Nat.reduceMul, sub, ck', l2', t0', t2', tl1]
            · have tl1 := tl.2 ct
              rw [y2 (fun t => ct (ek.mp t.2).2.2.2)]
              unfold fM_isImage_j75
              simp (disch := omega) only [Bool.false_eq_true, jz_lit, jz_neg, jz_nat, jz_add, jz_sub, jz_mul, jz_lt, jz_le, jz_eq, jz_ix, jin_z, jz_div, jzw, jwz, jw_lit, jw_neg, jw_add, jw_sub, jw_mul, jw_lt, jw_le, jw_eq, jw_div, Int.toNat_natCast, if_pos, if_neg, if_true, if_false, Option.bind_some, Int.natCast_add, Int.natCast_mul, Int.cast_ofNat_Int, Int.reduceToNat, Int.reduceAdd, Int.reduceMul, Int.reduceSub, Int.reduceNeg, Nat.reduceAdd, Nat.reduceMul, sub, ck', l2', t0', t2', tl1]
      · rw [y2 (fun t => cc (ek.mp t.2).1)]
        simp (disch := omega) only [Bool.false_eq_true, jz_lit, jz_neg, jz_nat, jz_add, jz_sub, jz_mul, jz_lt, jz_le, jz_eq, jz_ix, jin_z, jz_div, jzw, jwz, jw_lit, jw_neg, jw_add, jw_sub, jw_mul, jw_lt, jw_le, jw_eq, jw_div, Int.toNat_natCast, if_pos, if_neg, if_true, if_false, Option.bind_some, Int.natCast_add, Int.natCast_mul, Int.cast_ofNat_Int, Int.reduceToNat, Int.reduceAdd, Int.reduceMul, Int.reduceSub, Int.reduceNeg, Nat.reduceAdd, Nat.reduceMul, sub, ck', l2']
    · rw [y2 (fun t => hn t.2.1)]
      simp (disch := omega) only [Bool.false_eq_true, jz_lit, jz_neg, jz_nat, jz_add, jz_sub, jz_mul, jz_lt, jz_le, jz_eq, jz_ix, jin_z, jz_div, jzw, jwz, jw_lit, jw_neg, jw_add, jw_sub, jw_mul, jw_lt, jw_le, jw_eq, jw_div, Int.toNat_natCast, if_pos, if_neg, if_true, if_false, Option.bind_some, Int.natCast_add, Int.natCast_mul, Int.cast_ofNat_Int, Int.reduceToNat, Int.reduceAdd, Int.reduceMul, Int.reduceSub, Int.reduceNeg, Nat.reduceAdd, Nat.reduceMul]
  constructor
  · intro s; exact core 1 (fun _ => rfl) (fun t => absurd s t)
  · intro s; exact core 0 (fun t => absurd t s) (fun _ => rfl)
theorem sSd_clear {o : Nat} : ∃ h', fSd_clear o h = some h' ∧ eFr (fun o' _ => o ≤ o' ∧ o' ≤ o + 2) h h' ∧ h'.1 o 1 = jz (-1) ∧ ∀ k, k < 8 → h'.1 (o + 1) k = jz 0 ∧ h'.1 (o + 2) k = jz 0 := by
  have hl := jlim_cnt (step := fSd_clear_l12 o) (fun k (x : jH) => (jz k, x)) (fun k x => eFr (fun o' _ => o ≤ o' ∧ o' ≤ o + 2) h x ∧ x.1 o 1 = jz (-1) ∧ ∀ j, j < k → x.1 (o + 1) j = jz 0 ∧ x.1 (o + 2) j = jz 0) (fun x => eFr (fun o' _ => o ≤ o' ∧ o' ≤ o + 2) h x ∧ x.1 o 1 = jz (-1) ∧ ∀ j, j < 8 → x.1 (o + 1) j = jz 0 ∧ x.1 (o + 2) j = jz 0) 8 8 0 (by omega) (jhI (jhI h o 0 (jz 0)) o 1 (jz (-1))) ?_ ?_ ?_
  · obtain ⟨x, h1, h2⟩ := hl
    refine ⟨x, ?_, h2⟩
    have h1' : jlim (fSd_clear_l12 o) (0, jhI (jhI h o 0 0) o 1 (-1)) = some x := h1
    unfold fSd_clear
    rw [h1']
    rfl
  · exact ⟨eFr_I (S := fun o' _ => o ≤ o' ∧ o' ≤ o + 2) (eFr_I (S := fun o' _ => o ≤ o' ∧ o' ≤ o + 2) (eFr_refl _ h) (by omega) _) (by omega) _, by rw [jhI_1, if_pos ⟨rfl, rfl⟩], fun j hj => by omega⟩
  · rintro k x _ hk ⟨q1, q2, q3⟩
    refine ⟨jhI (jhI x (o + 1) k (jz 0)) (o + 2) k (jz 0), ?_, eFr_I (S := fun o' _ => o ≤ o' ∧ o' ≤ o + 2) (eFr_I (S := fun o' _ => o ≤ o' ∧ o' ≤ o + 2) q1 (by omega) _) (by omega) _, ?_, fun j hj => ?_⟩
    · simp only [fSd_clear_l12, fSd_clear_l12_b]
      simp (disch := omega) only [Bool.false_eq_true, jz_lit, jz_neg, jz_nat, jz_add, jz_sub, jz_mul, jz_lt, jz_le, jz_eq, jz_ix, jin_z, jz_div, jzw, jwz, jw_lit, jw_neg, jw_add, jw_sub, jw_mul, jw_lt, jw_le, jw_eq, jw_div, Int.toNat_natCast, if_pos, if_neg, if_true, if_false, Option.bind_some, Int.natCast_add, Int.natCast_mul, Int.cast_ofNat_Int, Int.reduceToNat, Int.reduceAdd, Int.reduceMul, Int.reduceSub, Int.reduceNeg, Nat.reduceAdd, Nat.reduceMul]
    · simp (disch := omega) only [jhI_1, jhI_2, jhL_1, jhL_2, if_neg, if_pos, eq_self, and_self, if_true, if_false, Nat.reduceEqDiff, false_and, and_false, true_and, and_true, q2]
    · by_cases e : j = k
      · subst e
        constructor
        · rw [jhI_1, if_neg (by omega), jhI_1, if_pos ⟨rfl, rfl⟩]
        · rw [jhI_1, if_pos ⟨rfl, rfl⟩]
      · have := q3 j (by omega)
        constructor
        · rw [jhI_1, if_neg (by omega), jhI_1, if_neg (by omega)]; exact this.1
        · rw [jhI_1, if_neg (by omega), jhI_1, if_neg (by omega)]; exact this.2
  · rintro x q
    refine ⟨x, ?_, q⟩
    simp only [fSd_clear_l12, fSd_clear_l12_b]
    simp (disch := omega) only [Bool.false_eq_true, jz_lit, jz_neg, jz_nat, jz_add, jz_sub, jz_mul, jz_lt, jz_le, jz_eq, jz_ix, jin_z, jz_div, jzw, jwz, jw_lit, jw_neg, jw_add, jw_sub, jw_mul, jw_lt, jw_le, jw_eq, jw_div, Int.toNat_natCast, if_pos, if_neg, if_true, if_false, Option.bind_some, Int.natCast_add, Int.natCast_mul, Int.cast_ofNat_Int, Int.reduceToNat, Int.reduceAdd, Int.reduceMul, Int.reduceSub, Int.reduceNeg, Nat.reduceAdd, Nat.reduceMul]
theorem sTp_pairAt {k : Nat} (hn0 : n ≤ 1600) (hn : h.1 2 1 = jz n) (hk : k + 1 < n) (ha : T k < 256 ∧ h.1 3 k = jz (T k)) (hb : T (k + 1) < 256 ∧ h.1 3 (k + 1) = jz (T (k + 1))) : fTp_pairAt 2 (jz k) h = some (jz (eP T k)) := by
  obtain ⟨a1, a2⟩ := ha
  obtain ⟨b1, b2⟩ := hb
  have e : eP T k = T k * 256 + T (k + 1) := rfl
  generalize eP T k = x at *
  generalize T k = a at *
  generalize T (k + 1) = b at *
  have r1 := sTp_byteAt (o := 2) (k := (k : Int)) hn jss_3 hn0 (by omega) (by omega) (by omega)
  have r2 := sTp_byteAt (o := 2) (k := (k : Int) + 1) hn jss_3 hn0 (by omega) (by omega) (by omega)
  rw [if_pos (by omega), Int.toNat_natCast, a2] at r1
  rw [if_pos (by omega), show ((k : Int) + 1).toNat = k + 1 by omega, b2] at r2
  unfold fTp_pairAt
  have e1 : (a : Int) * 256 + (b : Int) = ((x : Nat) : Int) := by omega
  simp (disch := omega) only [Bool.false_eq_true, jz_lit, jz_neg, jz_nat, jz_add, jz_sub, jz_mul, jz_lt, jz_le, jz_eq, jz_ix, jin_z, jz_div, jzw, jwz, jw_lit, jw_neg, jw_add, jw_sub, jw_mul, jw_lt, jw_le, jw_eq, jw_div, Int.toNat_natCast, if_pos, if_neg, if_true, if_false, Option.bind_some, Int.natCast_add, Int.natCast_mul, Int.cast_ofNat_Int, Int.reduceToNat, Int.reduceAdd, Int.reduceMul, Int.reduceSub, Int.reduceNeg, Nat.reduceAdd, Nat.reduceMul, r1, r2, e1]
theorem sSd_rdl (hn0 : n ≤ 1600) (hg : g ≤ 8) (hng : n = 5 + 3 * g) (hn : h.1 2 1 = jz n) (hT : ∀ k, k < n → T k < 256 ∧ h.1 3 k = jz (T k)) {h1 : jH} (F : eFr (fun o' _ => 14 ≤ o' ∧ o' ≤ 16) h h1) (z0 : h1.1 14 0 = jz (eRd T g 0 1)) (z1 : h1.1 14 1 = jz (eRd T g 0 2)) (zz : ∀ k, k < 8 → h1.1 15 k = jz 0 ∧ h1.1 16 k = jz 0) : ∃ h', jlim (fSd_readImage_l71 14 2 (jz g)) (jz 0, h1) = some h' ∧ eFr (fun o' _ => 14 ≤ o' ∧ o' ≤ 16) h h' ∧ cS 14 (eRd T g) h' := by
  have hl := jlim_cnt (step := fSd_readImage_l71 14 2 (jz g)) (fun k (x : jH) => (jz k, x)) (fun k x => eFr (fun o' _ => 14 ≤ o' ∧ o' ≤ 16) h x ∧ x.1 14 0 = jz (eRd T g 0 1) ∧ x.1 14 1 = jz (eRd T g 0 2) ∧ (∀ j, j < k → x.1 15 j = jz (eRd T g 1 j) ∧ x.1 16 j = jz (eRd T g 2 j)) ∧ ∀ j, k ≤ j → j < 8 → x.1 15 j = jz 0 ∧ x.1 16 j = jz 0) (fun x => eFr (fun o' _ => 14 ≤ o' ∧ o' ≤ 16) h x ∧ cS 14 (eRd T g) x) g g 0 (by omega) h1 ⟨F, z0, z1, fun j hj => by omega, fun j _ hj => zz j hj⟩ ?_ ?_
  · exact hl
  · rintro k x _ hk ⟨q1, q2, q3, q4, q5⟩
    have hn' : x.1 2 1 = jz n := by rw [q1.1 _ _ (by omega)]; exact hn
    have hT' : ∀ k, k < n → T k < 256 ∧ x.1 3 k = jz (T k) := fun k hk => ⟨(hT k hk).1, by rw [q1.1 _ _ (by omega)]; exact (hT k hk).2⟩
    have r1 := sTp_byteAt (o := 2) (k := ((4 + 3 * k : Nat) : Int)) hn' jss_3 hn0 (by omega) (by omega) (by omega)
    rw [if_pos (by omega), Int.toNat_natCast, (hT' (4 + 3 * k) (by omega)).2, show ((4 + 3 * k : Nat) : Int) = 4 + 3 * (k : Int) by omega] at r1
    have r2 := sTp_pairAt (T := T) (h := jhI x 15 k (jz (T (4 + 3 * k)))) (k := 5 + 3 * k) hn0 (by rw [jhI_1, if_neg (by omega)]; exact hn') (by omega) ⟨(hT' (5 + 3 * k) (by omega)).1, by rw [jhI_1, if_neg (by omega)]; exact (hT' (5 + 3 * k) (by omega)).2⟩ ⟨(hT' (5 + 3 * k + 1) (by omega)).1, by rw [jhI_1, if_neg (by omega)]; exact (hT' (5 + 3 * k + 1) (by omega)).2⟩
    rw [show ((5 + 3 * k : Nat) : Int) = 4 + 3 * (k : Int) + 1 by omega] at r2
    refine ⟨jhI (jhI x 15 k (jz (T (4 + 3 * k)))) 16 k (jz (eP T (5 + 3 * k))), ?_, eFr_I (S := fun o' _ => 14 ≤ o' ∧ o' ≤ 16) (eFr_I (S := fun o' _ => 14 ≤ o' ∧ o' ≤ 16) q1 (by omega) _) (by omega) _, ?_, ?_, fun j hj => ?_, fun j hj1 hj2 => ?_⟩
    · simp only [fSd_readImage_l71, fSd_readImage_l71_b]
      simp (disch := omega) only [Bool.false_eq_true, jz_lit, jz_neg, jz_nat, jz_add, jz_sub, jz_mul, jz_lt, jz_le, jz_eq, jz_ix, jin_z, jz_div, jzw, jwz, jw_lit, jw_neg, jw_add, jw_sub, jw_mul, jw_lt, jw_le, jw_eq, jw_div, Int.toNat_natCast, if_pos, if_neg, if_true, if_false, Option.bind_some, Int.natCast_add, Int.natCast_mul, Int.cast_ofNat_Int, Int.reduceToNat, Int.reduceAdd, Int.reduceMul, Int.reduceSub, Int.reduceNeg, Nat.reduceAdd, Nat.reduceMul, r1, r2]
    · simp (disch := omega) only [jhI_1, jhI_2, jhL_1, jhL_2, if_neg, if_pos, eq_self, and_self, if_true, if_false, Nat.reduceEqDiff, false_and, and_false, true_and, and_true, q2]
    · simp (disch := omega) only [jhI_1, jhI_2, jhL_1, jhL_2, if_neg, if_pos, eq_self, and_self, if_true, if_false, Nat.reduceEqDiff, false_and, and_false, true_and, and_true, q3]
    · by_cases e : j = k
      · subst e
        rw [eRd_1, eRd_2, if_pos hk, if_pos hk]
        constructor
        · rw [jhI_1, if_neg (by omega), jhI_1, if_pos ⟨rfl, rfl⟩]
        · rw [jhI_1, if_pos ⟨rfl, rfl⟩]
      · have := q4 j (by omega)
        constructor
        · rw [jhI_1, if_neg (by omega), jhI_1, if_neg (by omega)]; exact this.1
        · rw [jhI_1, if_neg (by omega), jhI_1, if_neg (by omega)]; exact this.2
    · have := q5 j (by omega) hj2
      constructor
      · rw [jhI_1, if_neg (by omega), jhI_1, if_neg (by omega)]; exact this.1
      · rw [jhI_1, if_neg (by omega), jhI_1, if_neg (by omega)]; exact this.2
  · rintro x ⟨q1, q2, q3, q4, q5⟩
    refine ⟨x, ?_, q1, q2, q3, fun k hk => ?_⟩
    · simp only [fSd_readImage_l71, fSd_readImage_l71_b]
      simp (disch := omega) only [Bool.false_eq_true, jz_lit, jz_neg, jz_nat, jz_add, jz_sub, jz_mul, jz_lt, jz_le, jz_eq, jz_ix, jin_z, jz_div, jzw, jwz, jw_lit, jw_neg, jw_add, jw_sub, jw_mul, jw_lt, jw_le, jw_eq, jw_div, Int.toNat_natCast, if_pos, if_neg, if_true, if_false, Option.bind_some, Int.natCast_add, Int.natCast_mul, Int.cast_ofNat_Int, Int.reduceToNat, Int.reduceAdd, Int.reduceMul, Int.reduceSub, Int.reduceNeg, Nat.reduceAdd, Nat.reduceMul]
    · by_cases c : k < g
      · exact q4 k c
      · rw [eRd_1, eRd_2, if_neg c, if_neg c]
        exact q5 k (by omega) hk
theorem sSd_readImage (hn0 : n ≤ 1600) (hg : g ≤ 8) (hn : h.1 2 1 = jz n) (hT : ∀ k, k < n → T k < 256 ∧ h.1 3 k = jz (T k)) : (eOk T g n → ∃ h', fSd_readImage 14 2 (jz g) h = some (jz 1, h') ∧ eFr (fun o' _ => 14 ≤ o' ∧ o' ≤ 16) h h' ∧ cS 14 (eRd T g) h') ∧ (¬ eOk T g n → ∃ h', fSd_readImage 14 2 (jz g) h = some (jz 0, h') ∧ eFr (fun o' _ => 14 ≤ o' ∧ o' ≤ 16) h h') := by
  have isz : fSd_imageSize (jz g) = jz (5 + 3 * (g : Int)) := by
    have e : 4 + 3 * (g : Int) + 1 = 5 + 3 * (g : Int) := by omega
    unfold fSd_imageSize
    simp (disch := omega) only [Bool.false_eq_true, jz_lit, jz_neg, jz_nat, jz_add, jz_sub, jz_mul, jz_lt, jz_le, jz_eq, jz_ix, jin_z, jz_div, jzw, jwz, jw_lit, jw_neg, jw_add, jw_sub, jw_mul, jw_lt, jw_le, jw_eq, jw_div, Int.toNat_natCast, if_pos, if_neg, if_true, if_false, Option.bind_some, Int.natCast_add, Int.natCast_mul, Int.cast_ofNat_Int, Int.reduceToNat, Int.reduceAdd, Int.reduceMul, Int.reduceSub, Int.reduceNeg, Nat.reduceAdd, Nat.reduceMul, e]
  by_cases c1 : n = 5 + 3 * g
  · have r1 := sTp_byteAt (o := 2) (k := ((4 + 3 * g : Nat) : Int)) hn jss_3 hn0 (by omega) (by omega) (by omega)
    obtain ⟨l1, l2⟩ := hT (4 + 3 * g) (by omega)
    rw [if_pos (by omega), Int.toNat_natCast, l2] at r1
    have ck := sTp_checkOf (h := h) (o := 2) (c := 1600) (m := n) (n := 4 + 3 * g) (f := T) hn jss_3 hn0 (by omega) (by omega) (fun k hk => hT k (by omega))
    have ckb := eCk_lt T (4 + 3 * g)
    have sub : (5 + 3 * (g : Int)) - 1 = 4 + 3 * (g : Int) := by omega
    rw [show ((4 + 3 * g : Nat) : Int) = 4 + 3 * (g : Int) by omega] at r1 ck
    have sz : (n : Int) = 5 + 3 * (g : Int) := by omega
    by_cases c2 : T (4 + 3 * g) = eCk T (4 + 3 * g)
    · obtain ⟨y, e1, f1, g1, g2⟩ := sSd_clear (h := h) (o := 14)
      have y2 : y.1 2 1 = jz n := by rw [f1.1 _ _ (by omega)]; exact hn
      have yT : ∀ k, k < n → T k < 256 ∧ y.1 3 k = jz (T k) := fun k hk => ⟨(hT k hk).1, by rw [f1.1 _ _ (by omega)]; exact (hT k hk).2⟩
      have p0 : fTp_pairAt 2 (jz 0) y = some (jz (eP T 0)) := sTp_pairAt (T := T) (k := 0) hn0 y2 (by omega) (yT 0 (by omega)) (yT 1 (by omega))
      have p2 : fTp_pairAt 2 (jz 2) (jhI y 14 0 (jz (eP T 0))) = some (jz (eP T 2)) := sTp_pairAt (T := T) (k := 2) hn0 y2 (by omega) (yT 2 (by omega)) (yT 3 (by omega))
      have b2 := eP_lt (T := T) (k := 2) (yT 2 (by omega)).1 (yT 3 (by omega)).1
      have b := eRd_b (T := T) (g := g) (fun k hk => (hT k (by omega)).1)
      have sd : ∃ h', fSd_readImage 14 2 (jz g) h = (Option.bind (fSd_isSound 14 h') (fun (z18 : Int32) => if z18 = 0 ∨ z18 = 1 then some (z18, h') else none)) ∧ eFr (fun o' _ => 14 ≤ o' ∧ o' ≤ 16) h h' ∧ cS 14 (eRd T g) h' := by
        obtain ⟨w, e2, f2, s2⟩ := sSd_rdl hn0 hg c1 hn hT (h1 := jhI (jhI y 14 0 (jz (eP T 0))) 14 1 (jz (eRd T g 0 2))) (eFr_I (S := fun o' _ => 14 ≤ o' ∧ o' ≤ 16) (eFr_I (S := fun o' _ => 14 ≤ o' ∧ o' ≤ 16) f1 (by omega) _) (by omega) _) (by rw [jhI_1, if_neg (by omega), jhI_1, if_pos ⟨rfl, rfl⟩]; rfl) (by rw [jhI_1, if_pos ⟨rfl, rfl⟩]) (fun k hk => by
          have := g2 k hk
          constructor
          · rw [jhI_1, if_neg (by omega), jhI_1, if_neg (by omega)]; exact this.1
          · rw [jhI_1, if_neg (by omega), jhI_1, if_neg (by omega)]; exact this.2)
        refine ⟨w, ?_, f2, s2⟩
        have fin : ∀ v : Int32, v = jz (eRd T g 0 2) → fSd_readImage_j65 14 2 (jz g) 14 v (jhI y 14 0 (jz (eP T 0))) = (Option.bind (fSd_isSound 14 w) (fun (z18 : Int32) => if z18 = 0 ∨ z18 = 1 then some (z18, w) else none)) := by
          rintro v rfl
          have e2' : jlim (fSd_readImage_l71 14 2 (jz g)) (0, jhI (jhI y 14 0 (jz (eP T 0))) 14 1 (jz (eRd T g 0 2))) = some w := e2
          unfold fSd_readImage_j65
          rw [e2', Option.bind_some]
        have eF := eRd_F T g
        generalize eP T 0 = W at *
        generalize eP T 2 = F at *
        generalize eRd T g 0 2 = RF at *
        unfold fSd_readImage fTp_size
        rw [hn, isz]
        by_cases c3 : F = 65535
        · rw [if_pos c3] at eF
          have fin' := fin (jz (-1)) (by rw [eF])
          simp (disch := omega) only [Bool.false_eq_true, jz_lit, jz_neg, jz_nat, jz_add, jz_sub, jz_mul, jz_lt, jz_le, jz_eq, jz_ix, jin_z, jz_div, jzw, jwz, jw_lit, jw_neg, jw_add, jw_sub, jw_mul, jw_lt, jw_le, jw_eq, jw_div, Int.toNat_natCast, if_pos, if_neg, if_true, if_false, Option.bind_some, Int.natCast_add, Int.natCast_mul, Int.cast_ofNat_Int, Int.reduceToNat, Int.reduceAdd, Int.reduceMul, Int.reduceSub, Int.reduceNeg, Nat.reduceAdd, Nat.reduceMul, sz, sub, r1, ck, e1, p0, p2, fin']
        · rw [if_neg c3] at eF
          have fin' := fin (jz F) (by rw [eF])
          simp (disch := omega) only [Bool.false_eq_true, jz_lit, jz_neg, jz_nat, jz_add, jz_sub, jz_mul, jz_lt, jz_le, jz_eq, jz_ix, jin_z, jz_div, jzw, jwz, jw_lit, jw_neg, jw_add, jw_sub, jw_mul, jw_lt, jw_le, jw_eq, jw_div, Int.toNat_natCast, if_pos, if_neg, if_true, if_false, Option.bind_some, Int.natCast_add, Int.natCast_mul, Int.cast_ofNat_Int, Int.reduceToNat, Int.reduceAdd, Int.reduceMul, Int.reduceSub, Int.reduceNeg, Nat.reduceAdd, Nat.reduceMul, sz, sub, r1, ck, e1, p0, p2, fin']
      obtain ⟨w, e2, f2, s2⟩ := sd
      have sn := sSd_isSound s2 b
      rw [eRd_8 hg] at sn
      constructor
      · intro ok
        refine ⟨w, ?_, f2, s2⟩
        rw [e2, sn.1 ok.2.2, Option.bind_some, if_pos (show jz 1 = 0 ∨ jz 1 = 1 from Or.inr rfl)]
      · intro no
        refine ⟨w, ?_, f2⟩
        rw [e2, sn.2 (fun t => no ⟨c1, c2, t⟩), Option.bind_some, if_pos (show jz 0 = 0 ∨ jz 0 = 1 from Or.inl rfl)]
    · refine ⟨fun ok => absurd ok.2.1 c2, fun _ => ⟨h, ?_, eFr_refl _ h⟩⟩
      unfold fSd_readImage fTp_size
      rw [hn, isz]
      simp (disch := omega) only [Bool.false_eq_true, jz_lit, jz_neg, jz_nat, jz_add, jz_sub, jz_mul, jz_lt, jz_le, jz_eq, jz_ix, jin_z, jz_div, jzw, jwz, jw_lit, jw_neg, jw_add, jw_sub, jw_mul, jw_lt, jw_le, jw_eq, jw_div, Int.toNat_natCast, if_pos, if_neg, if_true, if_false, Option.bind_some, Int.natCast_add, Int.natCast_mul, Int.cast_ofNat_Int, Int.reduceToNat, Int.reduceAdd, Int.reduceMul, Int.reduceSub, Int.reduceNeg, Nat.reduceAdd, Nat.reduceMul, sz, sub, r1, ck]
  · refine ⟨fun ok => absurd ok.1 c1, fun _ => ⟨h, ?_, eFr_refl _ h⟩⟩
    unfold fSd_readImage fTp_size
    rw [hn, isz]
    simp (disch := omega) only [Bool.false_eq_true, jz_lit, jz_neg, jz_nat, jz_add, jz_sub, jz_mul, jz_lt, jz_le, jz_eq, jz_ix, jin_z, jz_div, jzw, jwz, jw_lit, jw_neg, jw_add, jw_sub, jw_mul, jw_lt, jw_le, jw_eq, jw_div, Int.toNat_natCast, if_pos, if_neg, if_true, if_false, Option.bind_some, Int.natCast_add, Int.natCast_mul, Int.cast_ofNat_Int, Int.reduceToNat, Int.reduceAdd, Int.reduceMul, Int.reduceSub, Int.reduceNeg, Nat.reduceAdd, Nat.reduceMul]
end EO3
