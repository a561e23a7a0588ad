/-! cards and worth, the class -/
/-- weeks since the first card -/
def eBh (S : jD) : Int := if S 0 2 = -1 then 0 else S 0 1 - S 0 2
def eCdW (S : jD) (k : Nat) : Int := if S 1 k = 0 then eBh S else S 2 k
/-- how a card slights guest k, by how late it is -/
def eCd (D S : jD) (L : List Int) (k : Nat) : Int := if 0 < eCdW S k then eLate D L k (eCdW S k) else 0
/-- how guest k is slighted, were these asked -/
def eOfC (D S : jD) (L : List Int) (s k : Nat) : Int := if s.testBit k then eCd D S L k else if eHD D k &&& s = 0 then 0 else D 6 k
section EC
variable {p d g : Nat} {D S : jD} {L : List Int} {h : jH}
theorem eBh_b (bs : bS g S) : 0 ≤ eBh S ∧ eBh S ≤ 999 := by
  obtain ⟨a1, a2, a3, a4, -⟩ := bs
  unfold eBh
  split <;> omega
theorem eCdW_b {k : Nat} (bs : bS g S) (hk : k < 8) : 0 ≤ eCdW S k ∧ eCdW S k ≤ 999 := by
  have := bs.2.2.2.2 k hk
  have := eBh_b bs
  unfold eCdW
  split <;> omega
theorem eCd_b (D S : jD) (L : List Int) (k : Nat) : 0 ≤ eCd D S L k ∧ eCd D S L k ≤ 999 := by
  have := eLate_b D L k (eCdW S k)
  unfold eCd
  split <;> omega
theorem eOfC_b {s k : Nat} (b : bV g D) (hk : k < g) : 0 ≤ eOfC D S L s k ∧ eOfC D S L s k ≤ 999 := by
  have := eCd_b D S L k
  have := b.2.2.2.1 k hk
  unfold eOfC
  split
  · omega
  · split <;> omega
theorem eOfS_b {s : Nat} (b : bV g D) : 0 ≤ eSum (eOfC D S L s) g ∧ eSum (eOfC D S L s) g ≤ 7992 := by
  have := b.1
  have := eSum_b (f := eOfC D S L s) (m := 999) (n := g) (fun k hk => eOfC_b b hk)
  omega
theorem sSd_behind (bs : bS g S) (cs : cS 11 S h) : fSd_behindNow 11 h = jz (eBh S) := by
  obtain ⟨a1, a2, a3, a4, -⟩ := bs
  have cs1 := cS11 cs
  unfold fSd_behindNow eBh
  rw [cs1.1, cs1.2.1]
  by_cases e : S 0 2 = -1
  · simp (disch := omega) only [Bool.false_eq_true, jz_lit, jz_neg, jz_nat, jz_add, jz_sub, jz_mul, jz_lt, jz_le, jz_eq, jz_ix, jin_z, jz_div, jzw, jwz, jw_lit, jw_neg, jw_add, jw_sub, jw_mul, jw_lt, jw_le, jw_eq, jw_div, Int.toNat_natCast, if_pos, if_neg, if_true, if_false, Option.bind_some, Int.natCast_add, Int.natCast_mul, Int.cast_ofNat_Int, Int.reduceToNat, Int.reduceAdd, Int.reduceMul, Int.reduceSub, Int.reduceNeg, Nat.reduceAdd, Nat.reduceMul, e]
  · simp (disch := omega) only [Bool.false_eq_true, jz_lit, jz_neg, jz_nat, jz_add, jz_sub, jz_mul, jz_lt, jz_le, jz_eq, jz_ix, jin_z, jz_div, jzw, jwz, jw_lit, jw_neg, jw_add, jw_sub, jw_mul, jw_lt, jw_le, jw_eq, jw_div, Int.toNat_natCast, if_pos, if_neg, if_true, if_false, Option.bind_some, Int.natCast_add, Int.natCast_mul, Int.cast_ofNat_Int, Int.reduceToNat, Int.reduceAdd, Int.reduceMul, Int.reduceSub, Int.reduceNeg, Nat.reduceAdd, Nat.reduceMul, e]
theorem sPy_weigh1 {k : Nat} (hpd : iPD p d) (b : bV g D) (c : cV p g D h) (bs : bS g S) (cs : cS 11 S h) (l : jLt p L h) (hk : k < g) : ∃ h', fPy_weighCards_l2 p (jz k, h) = some (.inl (jz ((k + 1 : Nat) : Int), h')) ∧ eFr eQC h h' ∧ h'.1 83 k = jz (eCd D S L k) ∧ ∀ j, j ≠ k → h'.1 83 j = h.1 83 j := by
  have b0 := b.1
  have hp := hpd
  unfold iPD at hp
  have wb := eCdW_b bs (show k < 8 by omega)
  have cs1 := (cS11 cs).2.2 k (by omega)
  have ek : jz (k : Int) + 1 = jz ((k + 1 : Nat) : Int) := by rw [show (1 : Int32) = jz 1 from rfl, jz_add]; rfl
  have ew : fPy_weighCards_l2 p (jz k, h) = fPy_weighCards_l2_j49 p (jz k) (jz (eCdW S k)) h := by
    have c0 := c.1
    simp only [fPy_weighCards_l2, fPy_weighCards_l2_b, c0, sSd_isAsked bs cs (show k < 8 by omega), sSd_behind bs cs]
    unfold eCdW
    by_cases e : S 1 k = 0
    · simp (disch := omega) only [Bool.false_eq_true, jz_lit, jz_neg, jz_nat, jz_add, jz_sub, jz_mul, jz_lt, jz_le, jz_eq, jz_ix, jin_z, jz_div, jzw, jwz, jw_lit, jw_neg, jw_add, jw_sub, jw_mul, jw_lt, jw_le, jw_eq, jw_div, Int.toNat_natCast, if_pos, if_neg, if_true, if_false, Option.bind_some, Int.natCast_add, Int.natCast_mul, Int.cast_ofNat_Int, Int.reduceToNat, Int.reduceAdd, Int.reduceMul, Int.reduceSub, Int.reduceNeg, Nat.reduceAdd, Nat.reduceMul, e]
    · simp (disch := omega) only [Bool.false_eq_true, jz_lit, jz_neg, jz_nat, jz_add, jz_sub, jz_mul, jz_lt, jz_le, jz_eq, jz_ix, jin_z, jz_div, jzw, jwz, jw_lit, jw_neg, jw_add, jw_sub, jw_mul, jw_lt, jw_le, jw_eq, jw_div, Int.toNat_natCast, if_pos, if_neg, if_true, if_false, Option.bind_some, Int.natCast_add, Int.natCast_mul, Int.cast_ofNat_Int, Int.reduceToNat, Int.reduceAdd, Int.reduceMul, Int.reduceSub, Int.reduceNeg, Nat.reduceAdd, Nat.reduceMul, e, cs1]
  have wr : ∀ (y : jH) (x : Int), fPy_weighCards_l2_j82 p (jz k) 83 (jz k) (jz x) y = some (.inl (jz ((k + 1 : Nat) : Int), jhI y 83 k (jz x))) := by
    intro y x
    rw [← ek]
    unfold fPy_weighCards_l2_j82
    rw [jss_83, if_pos (by rw [jin_z (by omega) (by omega)]; omega), jz_ix (by omega) (by omega), Int.toNat_natCast]
  have fin : ∀ (y : jH) (x : Int), eFr (fun o _ => o = 82 ∨ o = p + 11) h y → x = eCd D S L k → eFr eQC h (jhI y 83 k (jz x)) ∧ (jhI y 83 k (jz x)).1 83 k = jz (eCd D S L k) ∧ ∀ j, j ≠ k → (jhI y 83 k (jz x)).1 83 j = h.1 83 j := by
    intro y x f hx
    subst hx
    refine ⟨eFr_I (eFr_mono f (fun o k hk => by unfold eQC; omega)) (by unfold eQC; omega) _, ?_, fun j hj => ?_⟩
    · rw [jhI_1, if_pos ⟨rfl, rfl⟩]
    · rw [jhI_1, if_neg (fun t => hj t.2), f.1 _ _ (by omega)]
  rw [ew]
  have hcd : eCd D S L k = if 0 < eCdW S k then eLate D L k (eCdW S k) else 0 := rfl
  generalize eCdW S k = w at *
  have zz : fPy_weighCards_l2_j81 p (jz k) 83 (jz k) h = some (.inl (jz ((k + 1 : Nat) : Int), jhI h 83 k (jz 0))) := wr h 0
  unfold fPy_weighCards_l2_j49
  by_cases c1 : 0 < w
  · rw [if_pos (by rw [show (0 : Int32) = jz 0 from rfl, jz_lt (by omega) (by omega) (by omega) (by omega)]; exact c1)]
    rw [if_pos c1] at hcd
    by_cases c2 : L = []
    · have em : fFo_isEmpty (p + 9) h = 1 := by
        unfold fFo_isEmpty
        rw [l.2.1, c2]
        rfl
      rw [em, if_neg (by decide), zz]
      refine ⟨_, rfl, fin h 0 (eFr_refl _ _) ?_⟩
      rw [hcd, c2, eLate_nil]
    · have em : fFo_isEmpty (p + 9) h = 0 := by
        have l1 := l.1
        have : 0 < L.length := List.length_pos_iff.mpr c2
        unfold fFo_isEmpty
        rw [l.2.1, if_neg (by rw [show (0 : Int32) = jz 0 from rfl, jz_eq (by omega) (by omega) (by omega) (by omega)]; omega)]
      obtain ⟨y, e1, f1⟩ := sPy_late (w := w) hpd b c bs cs l c2 hk (by omega)
      rw [em, if_pos rfl, e1, Option.bind_some]
      rw [show (jz (eLate D L k w), y).1 = jz (eLate D L k w) from rfl, show (jz (eLate D L k w), y).2 = y from rfl, wr]
      exact ⟨_, rfl, fin y _ f1 hcd.symm⟩
  · rw [if_neg (by rw [show (0 : Int32) = jz 0 from rfl, jz_lt (by omega) (by omega) (by omega) (by omega)]; exact c1), zz]
    rw [if_neg c1] at hcd
    exact ⟨_, rfl, fin h 0 (eFr_refl _ _) hcd.symm⟩
theorem sPy_weigh (hpd : iPD p d) (b : bV g D) (c : cV p g D h) (bs : bS g S) (cs : cS 11 S h) (l : jLt p L h) : ∃ h', fPy_weighCards p h = some h' ∧ eFr eQC h h' ∧ ∀ k, k < g → h'.1 83 k = jz (eCd D S L k) := by
  have b0 := b.1
  have hl := jlim_cnt (step := fPy_weighCards_l2 p) (fun k (x : jH) => (jz k, x)) (fun k x => eFr eQC h x ∧ ∀ j, j < k → x.1 83 j = jz (eCd D S L j)) (fun x => eFr eQC h x ∧ ∀ j, j < g → x.1 83 j = jz (eCd D S L j)) g g 0 (by omega) h ⟨eFr_refl _ _, fun j hj => by omega⟩ ?_ ?_
  · obtain ⟨x, e1, r1, r2⟩ := hl
    refine ⟨x, ?_, r1, r2⟩
    have e1' : jlim (fPy_weighCards_l2 p) (0, h) = some x := e1
    unfold fPy_weighCards
    rw [e1', Option.bind_some]
  · rintro k x _ hk ⟨q1, q2⟩
    obtain ⟨y, e1, f1, r1, r2⟩ := sPy_weigh1 hpd b (eQC_c hpd q1 c) bs (eQC_s q1 cs) (eQC_l hpd q1 l) hk
    refine ⟨y, e1, eFr_trans q1 f1, fun j hj => ?_⟩
    by_cases e : j = k
    · subst e; exact r1
    · rw [r2 j e]; exact q2 j (by omega)
  · rintro x ⟨q1, q2⟩
    have c1 := (eQC_c hpd q1 c).1
    refine ⟨x, ?_, q1, q2⟩
    simp only [fPy_weighCards_l2, fPy_weighCards_l2_b, c1]
    simp (disch := omega) only [Bool.false_eq_true, jz_lit, jz_neg, jz_nat, jz_add, jz_sub, jz_mul, jz_lt, jz_le, jz_eq, jz_ix, jin_z, jz_div, jzw, jwz, jw_lit, jw_neg, jw_add, jw_sub, jw_mul, jw_lt, jw_le, jw_eq, jw_div, Int.toNat_natCast, if_pos, if_neg, if_true, if_false, Option.bind_some, Int.natCast_add, Int.natCast_mul, Int.cast_ofNat_Int, Int.reduceToNat, Int.reduceAdd, Int.reduceMul, Int.reduceSub, Int.reduceNeg, Nat.reduceAdd, Nat.reduceMul]
theorem sPy_offOf {s k : Nat} (b : bV g D) (c : cV p g D h) (cd : ∀ k, k < g → h.1 83 k = jz (eCd D S L k)) (hk : k < g) (hs : s < 256) : fPy_offenceOf p (jz k) (jz s) h = some (jz (eOfC D S L s k)) := by
  have b0 := b.1
  have sl := sPn_slight b c hk hs
  have cd1 := cd k hk
  have hcd : eOfC D S L s k = if s.testBit k then eCd D S L k else if eHD D k &&& s = 0 then 0 else D 6 k := rfl
  rw [hcd]
  generalize eCd D S L k = v at *
  unfold fPy_offenceOf fPy_offenceOf_j26
  cases ht : s.testBit k with
  | true => simp (disch := omega) only [Bool.false_eq_true, jz_lit, jz_neg, jz_nat, jz_add, jz_sub, jz_mul, jz_lt, jz_le, jz_eq, jz_ix, jin_z, jz_div, jzw, jwz, jw_lit, jw_neg, jw_add, jw_sub, jw_mul, jw_lt, jw_le, jw_eq, jw_div, Int.toNat_natCast, if_pos, if_neg, if_true, if_false, Option.bind_some, Int.natCast_add, Int.natCast_mul, Int.cast_ofNat_Int, Int.reduceToNat, Int.reduceAdd, Int.reduceMul, Int.reduceSub, Int.reduceNeg, Nat.reduceAdd, Nat.reduceMul, jbit_at hs (show k < 8 by omega), ht, cd1]
  | false => simp (disch := omega) only [Bool.false_eq_true, jz_lit, jz_neg, jz_nat, jz_add, jz_sub, jz_mul, jz_lt, jz_le, jz_eq, jz_ix, jin_z, jz_div, jzw, jwz, jw_lit, jw_neg, jw_add, jw_sub, jw_mul, jw_lt, jw_le, jw_eq, jw_div, Int.toNat_natCast, if_pos, if_neg, if_true, if_false, Option.bind_some, Int.natCast_add, Int.natCast_mul, Int.cast_ofNat_Int, Int.reduceToNat, Int.reduceAdd, Int.reduceMul, Int.reduceSub, Int.reduceNeg, Nat.reduceAdd, Nat.reduceMul, jbit_at hs (show k < 8 by omega), ht, sl]
theorem eAskOr_lt {s : Nat} (hg : g ≤ 8) (hs : s < 2 ^ g) : (eAsk S g ||| s) < 256 := by
  have := eAsk_lt (S := S) hg
  have h2 := two8 hg
  exact Nat.or_lt_two_pow (n := 8) this (by omega)
theorem sPy_offWith {s : Nat} (b : bV g D) (c : cV p g D h) (bs : bS g S) (cs : cS 11 S h) (cd : ∀ k, k < g → h.1 83 k = jz (eCd D S L k)) (hs : s < 2 ^ g) : fPy_offenceWith p (jz s) h = some (jz (eSum (eOfC D S L (eAsk S g ||| s)) g)) := by
  have b0 := b.1
  have c0 := c.1
  have hl : jlim (fPy_offenceWith_l15 p (jz ((eAsk S g ||| s : Nat) : Int)) h) (0, 0) = some (jz (eSum (eOfC D S L (eAsk S g ||| s)) g)) := by
    refine jlim_go (fun k => (jz (eSum (eOfC D S L (eAsk S g ||| s)) k), jz k)) g rfl (fun i hi => ?_) ?_
    · have e1 := sPy_offOf b c cd hi (eAskOr_lt (S := S) b0 hs)
      simp only [fPy_offenceWith_l15, fPy_offenceWith_l15_b, c0, eSum, e1]
      simp (disch := omega) only [Bool.false_eq_true, jz_lit, jz_neg, jz_nat, jz_add, jz_sub, jz_mul, jz_lt, jz_le, jz_eq, jz_ix, jin_z, jz_div, jzw, jwz, jw_lit, jw_neg, jw_add, jw_sub, jw_mul, jw_lt, jw_le, jw_eq, jw_div, Int.toNat_natCast, if_pos, if_neg, if_true, if_false, Option.bind_some, Int.natCast_add, Int.natCast_mul, Int.cast_ofNat_Int, Int.reduceToNat, Int.reduceAdd, Int.reduceMul, Int.reduceSub, Int.reduceNeg, Nat.reduceAdd, Nat.reduceMul]
    · simp only [fPy_offenceWith_l15, fPy_offenceWith_l15_b, c0]
      simp (disch := omega) only [Bool.false_eq_true, jz_lit, jz_neg, jz_nat, jz_add, jz_sub, jz_mul, jz_lt, jz_le, jz_eq, jz_ix, jin_z, jz_div, jzw, jwz, jw_lit, jw_neg, jw_add, jw_sub, jw_mul, jw_lt, jw_le, jw_eq, jw_div, Int.toNat_natCast, if_pos, if_neg, if_true, if_false, Option.bind_some, Int.natCast_add, Int.natCast_mul, Int.cast_ofNat_Int, Int.reduceToNat, Int.reduceAdd, Int.reduceMul, Int.reduceSub, Int.reduceNeg, Nat.reduceAdd, Nat.reduceMul]
  unfold fPy_offenceWith
  rw [sSd_ask b bs cs, Option.bind_some, jbit_or, hl]
  rfl
/-- the joy of those who come -/
def eJoy (T : Nat → Int) (D : jD) (n : Nat) : Int := eSum (fun k => T k * D 4 k) n
theorem eJoy_b {T : Nat → Int} (b : bV g D) (hT : ∀ i, i < g → 0 ≤ T i ∧ T i ≤ 10) {n : Nat} (hn : n ≤ g) : 0 ≤ eJoy T D n ∧ eJoy T D n ≤ 8000 := by
  have b0 := b.1
  have := eSum_b (f := fun k => T k * D 4 k) (m := 1000) (n := n) (fun k hk => by
    have h1 := hT k (by omega)
    have h2 := b.2.2.2.1 k (by omega)
    have h3 : T k * D 4 k ≤ 10 * D 4 k := Int.mul_le_mul_of_nonneg_right h1.2 (by omega)
    have h4 : 0 ≤ T k * D 4 k := Int.mul_nonneg h1.1 (by omega)
    show 0 ≤ T k * D 4 k ∧ T k * D 4 k ≤ 1000
    omega)
  unfold eJoy
  omega
theorem sPy_joys {s : Nat} (hpd : iPD p d) (b : bV g D) (c : cV p g D h) (bs : bS g S) (cs : cS 11 S h) (hs : s < 2 ^ g) : ∃ h', Option.bind (fCr_clear h) (fun z1 => jlim (fPy_worthWith_l12 p (jz s)) (0, 0, z1)) = some (jw (eJoy (eW D S s) D g), h') ∧ eFr (fun o _ => o = 80 ∨ o = 81) h h' ∧ eRow (eW D S s) D g h' := by
  have b0 := b.1
  have hN := two8 b0
  have hpd2 := hpd
  unfold iPD at hpd2
  obtain ⟨x0, e0, f0, z1, z2⟩ := sCr_clear (h := h)
  rw [e0, Option.bind_some]
  have hl := jlim_cnt (step := fPy_worthWith_l12 p (jz s)) (fun k (x : Int64 × jH) => (x.1, jz k, x.2)) (fun k x => x.1 = jw (eJoy (eW D S s) D k) ∧ eFr (fun o _ => o = 80 ∨ o = 81) h x.2 ∧ ∃ M : Nat, M ≤ 32 ∧ x.2.1 80 1 = jz M ∧ (∀ n : Nat, n ≤ 32 → x.2.2 81 n = jw (eHd (eW D S s) (D 5) k n * ePw k)) ∧ ∀ n : Nat, M < n → n ≤ 32 → eHd (eW D S s) (D 5) k n = 0) (fun x => x.1 = jw (eJoy (eW D S s) D g) ∧ eFr (fun o _ => o = 80 ∨ o = 81) h x.2 ∧ eRow (eW D S s) D g x.2) g g 0 (by omega) (jw 0, x0) ?_ ?_ ?_
  · obtain ⟨x, h1, h2, h3, h4⟩ := hl
    refine ⟨x.2, ?_, h3, h4⟩
    rw [← h2]
    exact h1
  · refine ⟨rfl, f0, 0, by omega, z1, fun n hn => ?_, fun n h1 h2 => ?_⟩
    · show x0.2 81 n = _
      rw [z2 n hn]
      congr 1
      show _ = (if (n : Int) = 0 then 1 else 0) * ePw 0
      by_cases e : n = 0
      · rw [if_pos e, if_pos (by omega)]; rfl
      · rw [if_neg e, if_neg (by omega)]; simp
    · show (if (n : Int) = 0 then 1 else 0) = (0 : Int)
      rw [if_neg (by omega)]
  · rintro k ⟨j, x⟩ _ hk ⟨q0, q1, M, hM, q2, q3, q4⟩
    simp only at q0 q1 q2 q3
    have c1 : cV p g D x := cV_fr (fun o k hk => q1.1 o k (by omega)) c
    have cs1 : cS 11 S x := cS_fr (fun o k hk => q1.1 o k (by omega)) cs
    obtain ⟨sz, es, hsz⟩ := eSz b hk
    have c5 := (c1.2.2.2.1 k hk).2.2.1
    have c4 := (c1.2.2.2.1 k hk).2.1
    rw [es] at c5
    have tb := eW_b (S := S) (s := s) b hk
    have d4 := b.2.2.2.1 k hk
    have jb := eJoy_b (T := eW D S s) b (fun i hi => eW_b b hi) (n := k) (by omega)
    have pb : 0 ≤ eW D S s k * D 4 k ∧ eW D S s k * D 4 k ≤ 1000 := by
      have h3 : eW D S s k * D 4 k ≤ 10 * D 4 k := Int.mul_le_mul_of_nonneg_right tb.2 (by omega)
      have h4 : 0 ≤ eW D S s k * D 4 k := Int.mul_nonneg tb.1 (by omega)
      omega
    obtain ⟨y, e1, f1, r⟩ := sCr_add (h := x) (T := eW D S s) (t := eW D S s k) (show k < 8 by omega) hk b (fun i hi => eW_b b (by omega)) rfl es hM q2 q3 q4
    have ej : eJoy (eW D S s) D (k + 1) = eJoy (eW D S s) D k + eW D S s k * D 4 k := rfl
    refine ⟨(jw (eJoy (eW D S s) D (k + 1)), y), ?_, rfl, eFr_trans q1 f1, r⟩
    rw [ej]
    have cw := sPy_comesWith (s := s) b c1 bs cs1 hk (by omega)
    subst q0
    simp only [fPy_worthWith_l12, fPy_worthWith_l12_b, c1.1, cw]
    generalize eJoy (eW D S s) D k = J at *
    generalize eW D S s k = t at *
    simp (disch := omega) only [Bool.false_eq_true, jz_lit, jz_neg, jz_nat, jz_add, jz_sub, jz_mul, jz_lt, jz_le, jz_eq, jz_ix, jin_z, jz_div, jzw, jwz, jw_lit, jw_neg, jw_add, jw_sub, jw_mul, jw_lt, jw_le, jw_eq, jw_div, Int.toNat_natCast, if_pos, if_neg, if_true, if_false, Option.bind_some, Int.natCast_add, Int.natCast_mul, Int.cast_ofNat_Int, Int.reduceToNat, Int.reduceAdd, Int.reduceMul, Int.reduceSub, Int.reduceNeg, Nat.reduceAdd, Nat.reduceMul, c5, c4, e1]
  · rintro ⟨j, x⟩ ⟨q0, q1, q2⟩
    simp only at q0 q1
    have c1 : cV p g D x := cV_fr (fun o k hk => q1.1 o k (by omega)) c
    refine ⟨(j, x), ?_, q0, q1, q2⟩
    simp only [fPy_worthWith_l12, fPy_worthWith_l12_b, c1.1]
    simp (disch := omega) only [Bool.false_eq_true, jz_lit, jz_neg, jz_nat, jz_add, jz_sub, jz_mul, jz_lt, jz_le, jz_eq, jz_ix, jin_z, jz_div, jzw, jwz, jw_lit, jw_neg, jw_add, jw_sub, jw_mul, jw_lt, jw_le, jw_eq, jw_div, Int.toNat_natCast, if_pos, if_neg, if_true, if_false, Option.bind_some, Int.natCast_add, Int.natCast_mul, Int.cast_ofNat_Int, Int.reduceToNat, Int.reduceAdd, Int.reduceMul, Int.reduceSub, Int.reduceNeg, Nat.reduceAdd, Nat.reduceMul]
/-- what it is worth: over 10^g -/
def eWoN (D : jD) (g : Nat) (T : Nat → Int) (off : Int) : Int := (10 : Int) ^ g * 10 * eJoy T D g - (10 : Int) ^ g * 100 * off - 100 * D 0 4 * eBy T (D 5) g (D 0 3)
def eWoV (D : jD) (g : Nat) (T : Nat → Int) (off : Int) : Int := eWoN D g T off / (10 : Int) ^ g
theorem jwxor_neg {a b : Int} (h1 : -9223372036854775808 ≤ a) (h2 : a < 9223372036854775808) (h3 : 0 ≤ b) (h4 : b < 9223372036854775808) : (jw a ^^^ jw b) < 0 ↔ a < 0 := by
  have ng : ∀ x : Int64, x < 0 ↔ x.toBitVec.msb = true := by
    intro x
    rw [Int64.lt_iff_toInt_lt]
    show x.toBitVec.toInt < 0 ↔ _
    rw [BitVec.msb_eq_toInt, decide_eq_true_iff]
  have ea : (jw a).toBitVec.msb = decide (a < 0) := by
    rw [BitVec.msb_eq_toInt]
    have : (jw a).toBitVec.toInt = a := jw_int h1 h2
    rw [this]
  have eb : (jw b).toBitVec.msb = false := by
    rw [BitVec.msb_eq_toInt]
    have : (jw b).toBitVec.toInt = b := jw_int (by omega) h4
    rw [this]
    simp; omega
  rw [ng]
  show ((jw a).toBitVec ^^^ (jw b).toBitVec).msb = true ↔ _
  rw [BitVec.msb_xor, ea, eb]
  simp
theorem jfl {a b : Int} (hb : 0 < b) : a / b = if a < 0 ∧ ¬ a.tdiv b * b = a then a.tdiv b - 1 else a.tdiv b := by
  have f := jfdiv (a := a) (b := b) (by omega)
  rw [Int.fdiv_eq_ediv_of_nonneg _ (by omega)] at f
  rw [f]
  by_cases c : a < 0
  · by_cases c2 : a.tdiv b * b = a
    · rw [if_neg (fun t => t.2 c2), if_neg (fun t => t.2 c2)]
    · rw [if_pos ⟨by omega, c2⟩, if_pos ⟨c, c2⟩]
  · rw [if_neg (fun t => t.1 ⟨fun u => absurd u c, fun u => absurd u (by omega)⟩), if_neg (fun t => c t.1)]
theorem sMt_floorDivJ {a b : Int} (h1 : -4611686018427387904 < a) (h2 : a < 4611686018427387904) (h3 : 0 < b) (h4 : b ≤ 100000000) : fMt_floorDivJ (jw a) (jw b) = some (jw (a / b)) := by
  have n := Int.natAbs_tdiv_le_natAbs a b
  have m : a.tdiv b * b + a.tmod b = a := by rw [Int.mul_comm]; exact Int.mul_tdiv_add_tmod a b
  have m2 := Int.natAbs_tmod a b
  have m3 := Nat.mod_le a.natAbs b.natAbs
  have nb : ¬ jw b = 0 := by
    rw [show (0 : Int64) = jw 0 from rfl, jw_eq (by omega) (by omega) (by omega) (by omega)]
    omega
  have xn := jwxor_neg (a := a) (b := b) (by omega) (by omega) (by omega) (by omega)
  unfold fMt_floorDivJ
  rw [if_pos nb, jw_div (by omega) (by omega) (by omega) (by omega), jw_mul, jfl h3]
  have ez : jw (a.tdiv b * b) = jw a ↔ a.tdiv b * b = a := by rw [jw_eq (by omega) (by omega) (by omega) (by omega)]
  by_cases c : a < 0
  · rw [if_pos (xn.mpr c)]
    by_cases c2 : a.tdiv b * b = a
    · rw [if_pos (ez.mpr c2), if_neg (fun t => t.2 c2)]
    · rw [if_neg (fun t => c2 (ez.mp t)), if_pos ⟨c, c2⟩, show (1 : Int64) = jw 1 from rfl, jw_sub]
  · rw [if_neg (fun t => c (xn.mp t)), if_neg (fun t => c t.1)]
theorem sM_floored {a b : Int} (h1 : -4611686018427387904 < a) (h2 : a < 4611686018427387904) (h3 : 0 < b) (h4 : b ≤ 100000000) : fM_floored (jw a) (jw b) = some (jw (a / b)) := by
  have n := Int.natAbs_tdiv_le_natAbs a b
  have m : a.tdiv b * b + a.tmod b = a := by rw [Int.mul_comm]; exact Int.mul_tdiv_add_tmod a b
  have m2 := Int.natAbs_tmod a b
  have m3 := Nat.mod_le a.natAbs b.natAbs
  have nb : ¬ jw b = 0 := by
    rw [show (0 : Int64) = jw 0 from rfl, jw_eq (by omega) (by omega) (by omega) (by omega)]
    omega
  unfold fM_floored
  rw [if_pos nb, if_pos nb, jw_div (by omega) (by omega) (by omega) (by omega), jw_mul, jw_sub, jfl h3]
  have ez : jw (a - a.tdiv b * b) < 0 ↔ a.tmod b < 0 := by
    rw [show (0 : Int64) = jw 0 from rfl, jw_lt (by omega) (by omega) (by omega) (by omega)]
    omega
  have es : a.tmod b < 0 ↔ a < 0 ∧ ¬ a.tdiv b * b = a := by
    by_cases c : a < 0
    · have : a.tmod b ≤ 0 := by
        have h1 := Int.tmod_nonneg (a := -a) b (by omega)
        rw [Int.neg_tmod] at h1
        omega
      constructor
      · intro h9; exact ⟨c, by omega⟩
      · intro h9; have := h9.2; omega
    · have := Int.tmod_nonneg (a := a) b (by omega)
      constructor
      · intro h9; omega
      · intro h9; exact absurd h9.1 c
  by_cases c : a < 0 ∧ ¬ a.tdiv b * b = a
  · rw [if_pos (ez.mpr (es.mpr c)), if_pos c, show (1 : Int64) = jw 1 from rfl, jw_sub]
  · rw [if_neg (fun t => c (es.mp (ez.mp t))), if_neg c]
theorem eWoN_b {T : Nat → Int} {off : Int} (b : bV g D) (hT : ∀ i, i < g → 0 ≤ T i ∧ T i ≤ 10) (ho : 0 ≤ off ∧ off ≤ 7992) : -2000000000000000 ≤ eWoN D g T off ∧ eWoN D g T off ≤ 2000000000000000 ∧ 0 ≤ D 0 4 * eBy T (D 5) g (D 0 3) ∧ D 0 4 * eBy T (D 5) g (D 0 3) ≤ 104544 * (10 : Int) ^ g := by
  have hp := p10_b b.1
  have jb := eJoy_b (T := T) b hT (n := g) (by omega)
  have d := b.2.1
  have eb := eBy_b (g := g) (T := T) (n := D 0 3) hT (by omega) (s := D 5)
  have h1 : D 0 4 * eBy T (D 5) g (D 0 3) ≤ 99 * eBy T (D 5) g (D 0 3) := Int.mul_le_mul_of_nonneg_right (by omega) eb.1
  have h2 : 0 ≤ D 0 4 * eBy T (D 5) g (D 0 3) := Int.mul_nonneg (by omega) eb.1
  have h3 : (10 : Int) ^ g * eJoy T D g ≤ (10 : Int) ^ g * 8000 := Int.mul_le_mul_of_nonneg_left jb.2 (by omega)
  have h4 : 0 ≤ (10 : Int) ^ g * eJoy T D g := Int.mul_nonneg (by omega) jb.1
  have h5 : (10 : Int) ^ g * off ≤ (10 : Int) ^ g * 7992 := Int.mul_le_mul_of_nonneg_left ho.2 (by omega)
  have h6 : 0 ≤ (10 : Int) ^ g * off := Int.mul_nonneg (by omega) ho.1
  have e1 : (10 : Int) ^ g * 10 * eJoy T D g = 10 * ((10 : Int) ^ g * eJoy T D g) := by rw [Int.mul_comm ((10 : Int) ^ g) 10, Int.mul_assoc]
  have e2 : (10 : Int) ^ g * 100 * off = 100 * ((10 : Int) ^ g * off) := by rw [Int.mul_comm ((10 : Int) ^ g) 100, Int.mul_assoc]
  have e3 : 100 * D 0 4 * eBy T (D 5) g (D 0 3) = 100 * (D 0 4 * eBy T (D 5) g (D 0 3)) := Int.mul_assoc ..
  unfold eWoN
  rw [e1, e2, e3]
  generalize (10 : Int) ^ g = P at *
  generalize P * eJoy T D g = A at *
  generalize P * off = B at *
  generalize D 0 4 * eBy T (D 5) g (D 0 3) = C at *
  omega
theorem eWo_scale {T : Nat → Int} {off : Int} (hg : g ≤ 8) : (eJoy T D g * 10000000 - off * 100000000 - D 0 4 * (eBy T (D 5) g (D 0 3) * ePw g)) / 1000000 = eWoV D g T off := by
  have pa := ePw_all hg
  have pb := ePw_b g
  have hp := p10_b hg
  have e : (eJoy T D g * 10000000 - off * 100000000 - D 0 4 * (eBy T (D 5) g (D 0 3) * ePw g)) * 100 = ePw g * eWoN D g T off := by
    unfold eWoN
    have a1 : ePw g * ((10 : Int) ^ g * 10 * eJoy T D g) = 1000000000 * eJoy T D g := by
      rw [← Int.mul_assoc, ← Int.mul_assoc, pa]
      omega
    have a2 : ePw g * ((10 : Int) ^ g * 100 * off) = 10000000000 * off := by
      rw [← Int.mul_assoc, ← Int.mul_assoc, pa]
      omega
    have a3 : ePw g * (100 * D 0 4 * eBy T (D 5) g (D 0 3)) = 100 * (D 0 4 * (eBy T (D 5) g (D 0 3) * ePw g)) := by
      rw [Int.mul_comm (ePw g), Int.mul_assoc, Int.mul_assoc]
    rw [Int.mul_sub, Int.mul_sub, a1, a2, a3]
    omega
  unfold eWoV
  have q1 : (eJoy T D g * 10000000 - off * 100000000 - D 0 4 * (eBy T (D 5) g (D 0 3) * ePw g)) * 100 / (1000000 * 100) = (eJoy T D g * 10000000 - off * 100000000 - D 0 4 * (eBy T (D 5) g (D 0 3) * ePw g)) / 1000000 := Int.mul_ediv_mul_of_pos_left _ _ (by omega)
  have q2 : ePw g * eWoN D g T off / (ePw g * (10 : Int) ^ g) = eWoN D g T off / (10 : Int) ^ g := Int.mul_ediv_mul_of_pos _ _ (by omega)
  rw [← q1, e, ← q2, pa]
  rfl
/-- the worth, were cards sent to s as well -/
def eWo (D S : jD) (L : List Int) (g s : Nat) : Int := eWoV D g (eW D S s) (eSum (eOfC D S L (eAsk S g ||| s)) g)
theorem eWo_b {s : Nat} (b : bV g D) : -2000000000000000 ≤ eWo D S L g s ∧ eWo D S L g s ≤ 2000000000000000 := by
  have hp := p10_b b.1
  have := eWoN_b (T := eW D S s) b (fun i hi => eW_b b hi) (eOfS_b (S := S) (L := L) (s := eAsk S g ||| s) b)
  unfold eWo eWoV
  generalize eWoN D g (eW D S s) (eSum (eOfC D S L (eAsk S g ||| s)) g) = x at *
  generalize (10 : Int) ^ g = P at *
  constructor
  · exact Int.le_ediv_of_mul_le (by omega) (by
      have : -2000000000000000 * P ≤ -2000000000000000 * 1 := by omega
      omega)
  · have : x / P ≤ 2000000000000000 / P := Int.ediv_le_ediv (by omega) (by omega)
    have h2 : (2000000000000000 : Int) / P ≤ 2000000000000000 := Int.ediv_le_self _ (by omega)
    omega
theorem sPy_worthWith {s : Nat} (hpd : iPD p d) (b : bV g D) (c : cV p g D h) (bs : bS g S) (cs : cS 11 S h) (cd : ∀ k, k < g → h.1 83 k = jz (eCd D S L k)) (hs : s < 2 ^ g) : ∃ h', fPy_worthWith p (jz s) h = some (jw (eWo D S L g s), h') ∧ eFr (fun o _ => o = 80 ∨ o = 81) h h' := by
  have b0 := b.1
  have hpd2 := hpd
  unfold iPD at hpd2
  obtain ⟨h1, e1, f1, r⟩ := sPy_joys hpd b c bs cs hs
  have c1 : cV p g D h1 := cV_fr (fun o k hk => f1.1 o k (by omega)) c
  have cs1 : cS 11 S h1 := cS_fr (fun o k hk => f1.1 o k (by omega)) cs
  have cd1 : ∀ k, k < g → h1.1 83 k = jz (eCd D S L k) := fun k hk => by rw [f1.1 _ _ (by omega)]; exact cd k hk
  have e2 := sPy_offWith b c1 bs cs1 cd1 hs
  have d := b.2.1
  have hT : ∀ i, i < g → 0 ≤ eW D S s i ∧ eW D S s i ≤ 10 := fun i hi => eW_b b hi
  have e3 := sCr_beyond (n := D 0 3) b0 r hT (by omega)
  have ob := eOfS_b (S := S) (L := L) (s := eAsk S g ||| s) b
  have jb := eJoy_b (T := eW D S s) b hT (n := g) (by omega)
  have nb := eWoN_b (T := eW D S s) b hT ob
  have hp := p10_b b0
  have es := eWo_scale (D := D) (T := eW D S s) (off := eSum (eOfC D S L (eAsk S g ||| s)) g) b0
  have y3 := c1.2.1.1
  have y4 := c1.2.1.2.1
  have eb : 0 ≤ D 0 4 * (eBy (eW D S s) (D 5) g (D 0 3) * ePw g) ∧ D 0 4 * (eBy (eW D S s) (D 5) g (D 0 3) * ePw g) ≤ 10454400000000 := by
    have pw := ePw_b g
    have pa := ePw_all b0
    rw [← Int.mul_assoc]
    have h1 := Int.mul_nonneg nb.2.2.1 (show 0 ≤ ePw g by omega)
    have h2 := Int.mul_le_mul_of_nonneg_right nb.2.2.2 (show 0 ≤ ePw g by omega)
    have h3 : 104544 * (10 : Int) ^ g * ePw g = 10454400000000 := by rw [Int.mul_assoc, Int.mul_comm ((10 : Int) ^ g), pa]; rfl
    omega
  refine ⟨h1, ?_, f1⟩
  unfold eWo
  rw [← es]
  unfold fPy_worthWith
  obtain ⟨z1, e4, e5⟩ := Option.bind_eq_some_iff.mp e1
  rw [e4, Option.bind_some, e5, Option.bind_some]
  simp only []
  rw [e2, Option.bind_some, y3, e3, Option.bind_some, y4]
  generalize eSum (eOfC D S L (eAsk S g ||| s)) g = off at *
  generalize eJoy (eW D S s) D g = J at *
  generalize eBy (eW D S s) (D 5) g (D 0 3) * ePw g = B at *
  have fl := sMt_floorDivJ (a := J * 10000000 - off * 100000000 - D 0 4 * B) (b := 1000000) (by omega) (by omega) (by omega) (by omega)
  rw [jzw (by omega) (by omega), jzw (by omega) (by omega)]
  rw [show (10000000 : Int64) = jw 10000000 from rfl, show (100000000 : Int64) = jw 100000000 from rfl, show (1000000 : Int64) = jw 1000000 from rfl, jw_mul, jw_mul, jw_mul, jw_sub, jw_sub, fl]
  rfl
end EC
