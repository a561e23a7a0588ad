/-! the text of a wedding, on both sides -/
section XL
variable {n : Nat} {T : Nat → Nat} {e : Int} {s s0 d g np nh : Nat} {D : jD} {L : List Int} {h hc hm h' : jH} {f pl : Int} {P : Nat → Nat}
theorem far_pul (hg : g ≤ 8) (c0 : h.1 d 0 = jz g) (cp : ∀ k, k < 8 → P k < 256 ∧ h.1 (d + 6) k = jz (P k)) (hs : s < 256) : fPn_pulledBy d (jz s) h = some (jz (ePul P s g)) := by
  unfold fPn_pulledBy
  have hl : jlim (fPn_pulledBy_l4 d (jz s) h) (0, 0) = some (jz (ePul P s g)) := by
    refine jlim_go (fun k => (jz (ePul P s k), jz k)) g rfl (fun i hi => ?_) ?_
    · have e : ePul P s (i + 1) = if s.testBit i then ePul P s i ||| P i else ePul P s i := rfl
      have e8 := (cp i (by omega)).2
      simp only [fPn_pulledBy_l4, fPn_pulledBy_l4_b, fPn_pulledBy_l4_j36, c0, e]
      cases ht : s.testBit i with
      | true => simp (disch := omega) only [Bool.false_eq_true, jz_lit, jz_neg, jz_nat, jz_add, jz_sub, jz_mul, jz_lt, jz_le, jz_eq, jz_ix, jin_z, jz_div, jzw, jwz, jw_lit, jw_neg, jw_add, jw_sub, jw_mul, jw_lt, jw_le, jw_eq, jw_div, Int.toNat_natCast, if_pos, if_neg, if_true, if_false, Option.bind_some, Int.natCast_add, Int.natCast_mul, Int.cast_ofNat_Int, Int.reduceToNat, Int.reduceAdd, Int.reduceMul, Int.reduceSub, Int.reduceNeg, Nat.reduceAdd, Nat.reduceMul, jbit_at hs (show i < 8 by omega), ht, e8, jbit_or]
      | false => simp (disch := omega) only [Bool.false_eq_true, jz_lit, jz_neg, jz_nat, jz_add, jz_sub, jz_mul, jz_lt, jz_le, jz_eq, jz_ix, jin_z, jz_div, jzw, jwz, jw_lit, jw_neg, jw_add, jw_sub, jw_mul, jw_lt, jw_le, jw_eq, jw_div, Int.toNat_natCast, if_pos, if_neg, if_true, if_false, Option.bind_some, Int.natCast_add, Int.natCast_mul, Int.cast_ofNat_Int, Int.reduceToNat, Int.reduceAdd, Int.reduceMul, Int.reduceSub, Int.reduceNeg, Nat.reduceAdd, Nat.reduceMul, jbit_at hs (show i < 8 by omega), ht, Bool.false_eq_true]
    · simp only [fPn_pulledBy_l4, fPn_pulledBy_l4_b, c0]
      simp (disch := omega) only [Bool.false_eq_true, jz_lit, jz_neg, jz_nat, jz_add, jz_sub, jz_mul, jz_lt, jz_le, jz_eq, jz_ix, jin_z, jz_div, jzw, jwz, jw_lit, jw_neg, jw_add, jw_sub, jw_mul, jw_lt, jw_le, jw_eq, jw_div, Int.toNat_natCast, if_pos, if_neg, if_true, if_false, Option.bind_some, Int.natCast_add, Int.natCast_mul, Int.cast_ofNat_Int, Int.reduceToNat, Int.reduceAdd, Int.reduceMul, Int.reduceSub, Int.reduceNeg, Nat.reduceAdd, Nat.reduceMul]
  rw [hl]
  rfl
def xIt (g : Nat) (P : Nat → Nat) (k i : Nat) : Nat := Nat.rec (2 ^ k) (fun _ s => jpl P s g) i
theorem xIt_lt (hg : g ≤ 8) (hP : ∀ k, k < 8 → P k < 256) {k : Nat} (hk : k < 8) : ∀ i, xIt g P k i < 256 := by
  intro i
  induction i with
  | zero => exact (Nat.pow_lt_pow_right (show 1 < 2 by omega) hk : 2 ^ k < 2 ^ 8)
  | succ i ih =>
    show jpl P (xIt g P k i) g < 256
    rw [jpl_eq]
    exact Nat.or_lt_two_pow (n := 8) ih (ePul_lt (m := 8) (fun j hj => hP j (by omega)))
theorem far_one (hg : g ≤ 8) (c0 : h.1 d 0 = jz g) (cp : ∀ k, k < 8 → P k < 256 ∧ h.1 (d + 6) k = jz (P k)) {k : Nat} (hk : k < 8) (v1 : Int32) : jlim (fPn_findFarSets_l22 d v1 h) (jz ((2 ^ k : Nat) : Int), jz 0) = some (jz (jfarN g P k)) := by
  refine jlim_go (fun i => (jz (xIt g P k i : Int), jz i)) 8 rfl (fun i hi => ?_) ?_
  · have lt := xIt_lt (P := P) hg (fun j hj => (cp j hj).1) hk i
    have pb := far_pul (P := P) hg c0 cp lt
    have e : xIt g P k (i + 1) = xIt g P k i ||| ePul P (xIt g P k i) g := jpl_eq P _ g
    simp only [fPn_findFarSets_l22, fPn_findFarSets_l22_b]
    rw [if_pos (by rw [show (8 : Int32) = jz 8 from rfl, jz_lt (by omega) (by omega) (by omega) (by omega)]; omega), pb, Option.bind_some, jbit_or, ← e, jk1]
  · simp only [fPn_findFarSets_l22, fPn_findFarSets_l22_b]
    rw [if_neg (by decide)]
    rfl
theorem far_all (hg : g ≤ 8) (c0 : h.1 d 0 = jz g) (cp : ∀ k, k < 8 → P k < 256 ∧ h.1 (d + 6) k = jz (P k)) : ∃ h', fPn_findFarSets d h = some h' ∧ eFr (fun o _ => o = d + 8) h h' ∧ (∀ k, k < g → h'.1 (d + 8) k = jz (jfarN g P k)) ∧ ∀ k, g ≤ k → h'.1 (d + 8) k = h.1 (d + 8) k := by
  have hl := jlim_cnt (step := fPn_findFarSets_l2 d) (fun k (x : jH) => (jz k, x)) (fun k x => eFr (fun o _ => o = d + 8) h x ∧ (∀ j, j < k → x.1 (d + 8) j = jz (jfarN g P j)) ∧ ∀ j, k ≤ j → x.1 (d + 8) j = h.1 (d + 8) j) (fun x => eFr (fun o _ => o = d + 8) h x ∧ (∀ k, k < g → x.1 (d + 8) k = jz (jfarN g P k)) ∧ ∀ j, g ≤ j → x.1 (d + 8) j = h.1 (d + 8) j) g g 0 (by omega) h ⟨eFr_refl _ _, fun j hj => by omega, fun j _ => rfl⟩ ?_ ?_
  · obtain ⟨x, e1, r1, r2, r3⟩ := hl
    have e1' : jlim (fPn_findFarSets_l2 d) (0, h) = some x := e1
    refine ⟨x, ?_, r1, r2, r3⟩
    unfold fPn_findFarSets
    rw [e1', Option.bind_some]
  · rintro k x _ hk ⟨q1, q2, q3⟩
    have k8 : k < 8 := by omega
    have ix : (jz (k : Int)).toNatClampNeg = k := by rw [jz_ix (by omega) (by omega), Int.toNat_natCast]
    have sh : ((1 : Int32) <<< (jz (k : Int) &&& 31)) = jz ((2 ^ k : Nat) : Int) := jbit_shl (show k < 20 by omega)
    have x0 : x.1 d 0 = jz g := by rw [q1.1 _ _ (by omega)]; exact c0
    have fo := far_one (P := P) (d := d) (h := x) hg x0 (fun j hj => ⟨(cp j hj).1, by rw [q1.1 _ _ (by omega)]; exact (cp j hj).2⟩) k8 (jz k)
    have fo' : jlim (fPn_findFarSets_l22 d (jz k) x) (jz ((2 ^ k : Nat) : Int), 0) = _ := fo
    refine ⟨jhI x (d + 8) k (jz (jfarN g P k)), ?_, eFr_1 q1 _, fun j hj => ?_, fun j hj => by rw [jhI_1, if_neg (by omega)]; exact q3 j (by omega)⟩
    · show fPn_findFarSets_l2_b d (jz k) x = _
      unfold fPn_findFarSets_l2_b
      rw [x0, if_pos (by rw [jz_lt (by omega) (by omega) (by omega) (by omega)]; omega), if_pos (by rw [show (8 : Int32) = jz 8 from rfl, jz_lt (by omega) (by omega) (by omega) (by omega)]; omega), sh, fo', Option.bind_some, if_pos (by rw [jin_z (by omega) (by omega)]; omega), ix, jk1]
    · rw [jhI_1]
      by_cases z : j = k
      · rw [if_pos ⟨rfl, z⟩, z]
      · rw [if_neg (fun t => z t.2)]; exact q2 j (by omega)
  · rintro x ⟨q1, q2, q3⟩
    have x0 : x.1 d 0 = jz g := by rw [q1.1 _ _ (by omega)]; exact c0
    refine ⟨x, ?_, q1, q2, q3⟩
    show fPn_findFarSets_l2_b d (jz g) x = _
    unfold fPn_findFarSets_l2_b
    rw [x0, if_neg (by rw [jz_lt (by omega) (by omega) (by omega) (by omega)]; omega)]
theorem far_wk (W : xWk d h) : ∃ h', fPn_findFarSets d h = some h' ∧ eFr (fun o _ => o = d + 8) h h' := by
  obtain ⟨⟨g, g1, g2⟩, w⟩ := W
  obtain ⟨P, hP⟩ : ∃ P : Nat → Nat, ∀ k, k < 8 → P k < 256 ∧ h.1 (d + 6) k = jz (P k) := ⟨fun k => if hk : k < 8 then Classical.choose (w k hk) else 0, fun k hk => by
    have := Classical.choose_spec (w k hk)
    simp only [dif_pos hk]
    exact this⟩
  obtain ⟨h', q1, q2, -⟩ := far_all (P := P) g1 g2 hP
  exact ⟨h', q1, q2⟩
theorem xFc_d {h1 : jH} {o k : Nat} (a : eFr (xFc d) h h1) (ho : d ≤ o ∧ o ≤ d + 11 ∧ o ≠ d + 8) (v : Int32) : eFr (xFc d) h (jhI h1 o k v) := eFr_I (S := xFc d) a (Or.inr ho) v
/-- the class's draft, fresh -/
theorem clear_ok : ∃ h', fPn_clear d h = some h' ∧ eFr (fun o _ => d ≤ o ∧ o ≤ d + 9) h h' ∧ h'.1 d 0 = jz 0 ∧ h'.1 d 1 = jz 0 ∧ h'.1 d 2 = jz 0 ∧ h'.1 d 7 = jz 5 ∧ h'.1 d 8 = jz 50 ∧ h'.1 d 9 = jz 2 ∧ h'.1 (d + 9) 2 = jz 0 ∧ ∀ k, k < 8 → h'.1 (d + 6) k = jz 0 ∧ h'.1 (d + 7) k = jz 0 ∧ h'.1 (d + 8) k = jz 0 := by
  obtain ⟨y, hy⟩ : ∃ y, y = fFo_clear (d + 9) (jhI (jhI (jhI (jhI (jhI (jhI h d 0 0) d 1 0) d 2 0) d 7 5) d 8 50) d 9 2) := ⟨_, rfl⟩
  have fy : eFr (fun o _ => d ≤ o ∧ o ≤ d + 9) h y := by
    rw [hy]
    unfold fFo_clear
    exact eFr_I (S := fun o _ => d ≤ o ∧ o ≤ d + 9) (eFr_I (S := fun o _ => d ≤ o ∧ o ≤ d + 9) (eFr_I (S := fun o _ => d ≤ o ∧ o ≤ d + 9) (eFr_I (S := fun o _ => d ≤ o ∧ o ≤ d + 9) (eFr_I (S := fun o _ => d ≤ o ∧ o ≤ d + 9) (eFr_I (S := fun o _ => d ≤ o ∧ o ≤ d + 9) (eFr_I (S := fun o _ => d ≤ o ∧ o ≤ d + 9) (eFr_refl _ _) (by omega) _) (by omega) _) (by omega) _) (by omega) _) (by omega) _) (by omega) _) (by omega) _
  have y0 : y.1 d 0 = jz 0 ∧ y.1 d 1 = jz 0 ∧ y.1 d 2 = jz 0 ∧ y.1 d 7 = jz 5 ∧ y.1 d 8 = jz 50 ∧ y.1 d 9 = jz 2 ∧ y.1 (d + 9) 2 = jz 0 := by
    rw [hy]
    unfold fFo_clear
    refine ⟨?_, ?_, ?_, ?_, ?_, ?_, ?_⟩ <;> simp (disch := omega) only [jhI_1, if_neg, if_pos, and_self] <;> rfl
  have hl := jlim_cnt (step := fPn_clear_l40 d) (fun k (x : jH) => (jz k, x)) (fun k x => eFr (fun o _ => d + 6 ≤ o ∧ o ≤ d + 8) y x ∧ ∀ j, j < k → x.1 (d + 6) j = jz 0 ∧ x.1 (d + 7) j = jz 0 ∧ x.1 (d + 8) j = jz 0) (fun x => eFr (fun o _ => d + 6 ≤ o ∧ o ≤ d + 8) y x ∧ ∀ j, j < 8 → x.1 (d + 6) j = jz 0 ∧ x.1 (d + 7) j = jz 0 ∧ x.1 (d + 8) j = jz 0) 8 8 0 (by omega) y ⟨eFr_refl _ _, fun j hj => by omega⟩ ?_ ?_
  · obtain ⟨x, e1, r1, r2⟩ := hl
    have e1' : jlim (fPn_clear_l40 d) (0, y) = some x := e1
    obtain ⟨w0, w1, w2, w3, w4, w5, w6⟩ := y0
    refine ⟨x, ?_, eFr_trans fy (eFr_mono r1 (fun o k hk => by omega)), ?_, ?_, ?_, ?_, ?_, ?_, ?_, r2⟩
    · unfold fPn_clear
      rw [← hy, e1', Option.bind_some]
    · rw [r1.1 _ _ (by omega)]; exact w0
    · rw [r1.1 _ _ (by omega)]; exact w1
    · rw [r1.1 _ _ (by omega)]; exact w2
    · rw [r1.1 _ _ (by omega)]; exact w3
    · rw [r1.1 _ _ (by omega)]; exact w4
    · rw [r1.1 _ _ (by omega)]; exact w5
    · rw [r1.1 _ _ (by omega)]; exact w6
  · rintro k x _ hk ⟨q1, q2⟩
    have ix : (jz (k : Int)).toNatClampNeg = k := by rw [jz_ix (by omega) (by omega), Int.toNat_natCast]
    have jk : jin (jz (k : Int)) 8 := by rw [jin_z (by omega) (by omega)]; omega
    refine ⟨jhI (jhI (jhI x (d + 6) k (jz 0)) (d + 7) k (jz 0)) (d + 8) k (jz 0), ?_, eFr_I (S := fun o _ => d + 6 ≤ o ∧ o ≤ d + 8) (eFr_I (S := fun o _ => d + 6 ≤ o ∧ o ≤ d + 8) (eFr_I (S := fun o _ => d + 6 ≤ o ∧ o ≤ d + 8) q1 (by omega) _) (by omega) _) (by omega) _, fun j hj => ?_⟩
    · show fPn_clear_l40_b d (jz k) x = _
      unfold fPn_clear_l40_b
      rw [if_pos (by rw [show (8 : Int32) = jz 8 from rfl, jz_lt (by omega) (by omega) (by omega) (by omega)]; omega), if_pos jk, if_pos jk, if_pos jk, ix, jk1]
      rfl
    · by_cases z : j = k
      · subst z
        simp (disch := omega) only [jhI_1, if_neg, if_pos, if_true, and_self]
      · have := q2 j (by omega)
        simp (disch := omega) only [jhI_1, if_neg]
        exact this
  · rintro x ⟨q1, q2⟩
    refine ⟨x, ?_, q1, q2⟩
    show fPn_clear_l40_b d (jz 8) x = _
    unfold fPn_clear_l40_b
    rw [if_neg (by decide)]
/-- the reference's draft, fresh -/
theorem mclear1 : ∃ h', jlim fM_wedding_l40 (0, h) = some h' ∧ eFr (fun o k => o = 138 ∧ k < 3) h h' ∧ ∀ k, k < 3 → h'.1 138 k = jz 0 := by
  have hl := jlim_cnt (step := fM_wedding_l40) (fun k (x : jH) => (jz k, x)) (fun k x => eFr (fun o k => o = 138 ∧ k < 3) h x ∧ ∀ j, j < k → x.1 138 j = jz 0) (fun x => eFr (fun o k => o = 138 ∧ k < 3) h x ∧ ∀ j, j < 3 → x.1 138 j = jz 0) 3 3 0 (by omega) h ⟨eFr_refl _ _, fun j hj => by omega⟩ ?_ ?_
  · exact hl
  · rintro k x _ hk ⟨q1, q2⟩
    have ix : (jz (k : Int)).toNatClampNeg = k := by rw [jz_ix (by omega) (by omega), Int.toNat_natCast]
    refine ⟨jhI x 138 k (jz 0), ?_, eFr_I (S := fun o k => o = 138 ∧ k < 3) q1 ⟨rfl, hk⟩ _, fun j hj => ?_⟩
    · show fM_wedding_l40_b (jz k) x = _
      unfold fM_wedding_l40_b
      rw [if_pos (by rw [show (3 : Int32) = jz 3 from rfl, jz_lt (by omega) (by omega) (by omega) (by omega)]; omega), if_pos (by rw [jin_z (by omega) (by omega)]; omega), ix, jk1]
      rfl
    · rw [jhI_1]
      by_cases z : j = k
      · rw [if_pos ⟨rfl, z⟩]
      · rw [if_neg (fun t => z t.2)]; exact q2 j (by omega)
  · rintro x ⟨q1, q2⟩
    refine ⟨x, ?_, q1, q2⟩
    show fM_wedding_l40_b (jz 3) x = _
    unfold fM_wedding_l40_b
    rw [if_neg (by decide)]
theorem mclear2 : ∃ h', jlim fM_wedding_l60 (0, h) = some h' ∧ eFr (fun o k => (o = 142 ∨ o = 143) ∧ k < 8) h h' ∧ ∀ k, k < 8 → h'.1 142 k = jz 0 ∧ h'.1 143 k = jz 0 := by
  have hl := jlim_cnt (step := fM_wedding_l60) (fun k (x : jH) => (jz k, x)) (fun k x => eFr (fun o k => (o = 142 ∨ o = 143) ∧ k < 8) h x ∧ ∀ j, j < k → x.1 142 j = jz 0 ∧ x.1 143 j = jz 0) (fun x => eFr (fun o k => (o = 142 ∨ o = 143) ∧ k < 8) h x ∧ ∀ j, j < 8 → x.1 142 j = jz 0 ∧ x.1 143 j = jz 0) 8 8 0 (by omega) h ⟨eFr_refl _ _, fun j hj => by omega⟩ ?_ ?_
  · exact hl
  · rintro k x _ hk ⟨q1, q2⟩
    have ix : (jz (k : Int)).toNatClampNeg = k := by rw [jz_ix (by omega) (by omega), Int.toNat_natCast]
    have jk : jin (jz (k : Int)) 16 := by rw [jin_z (by omega) (by omega)]; omega
    refine ⟨jhI (jhI x 142 k (jz 0)) 143 k (jz 0), ?_, eFr_I (S := fun o k => (o = 142 ∨ o = 143) ∧ k < 8) (eFr_I (S := fun o k => (o = 142 ∨ o = 143) ∧ k < 8) q1 ⟨Or.inl rfl, hk⟩ _) ⟨Or.inr rfl, hk⟩ _, fun j hj => ?_⟩
    · show fM_wedding_l60_b (jz k) x = _
      unfold fM_wedding_l60_b
      rw [if_pos (by rw [show (8 : Int32) = jz 8 from rfl, jz_lt (by omega) (by omega) (by omega) (by omega)]; omega), if_pos jk, if_pos jk, ix, jk1]
      rfl
    · by_cases z : j = k
      · subst z
        simp (disch := omega) only [jhI_1, if_neg, if_pos, if_true, and_self]
      · have := q2 j (by omega)
        simp (disch := omega) only [jhI_1, if_neg]
        exact this
  · rintro x ⟨q1, q2⟩
    refine ⟨x, ?_, q1, q2⟩
    show fM_wedding_l60_b (jz 8) x = _
    unfold fM_wedding_l60_b
    rw [if_neg (by decide)]
end XL
