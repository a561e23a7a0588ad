/-! The past: acts kept and undone -/
def cPast (q : Nat → Nat) (c : Nat) (K : Nat → jD) (h : jH) : Prop := h.1 17 1 = jz c ∧ ∀ i, i < c → cS (q (c - 1 - i)) (K i) h
def mBlk (b : Nat) (S : jD) (h : jH) : Prop := h.1 152 b = jz (S 0 1) ∧ h.1 152 (b + 1) = jz (S 0 2) ∧ ∀ k, k < 8 → h.1 152 (b + 2 + 2 * k) = jz (S 1 k) ∧ h.1 152 (b + 2 + 2 * k + 1) = jz (S 2 k)
def mPast (c w : Nat) (K : Nat → jD) (h : jH) : Prop := h.1 110 56 = jz c ∧ h.1 110 57 = jz w ∧ ∀ i, i < c → mBlk (18 * ((w + 20 - i) % 20)) (K i) h
theorem jPast_of {q : Nat → Nat} {g c w : Nat} {K : Nat → jD} {h : jH} (hc : c ≤ 20) (hw : w < 20) (a : cPast q c K h) (b : mPast c w K h) (d : ∀ i, i < c → bS g (K i)) : jPast q g h :=
  ⟨c, w, hc, hw, a.1, b.1, b.2.1, fun i hi => ⟨K i, a.2 i hi, d i hi, (b.2.2 i hi).1, (b.2.2 i hi).2.1, (b.2.2 i hi).2.2⟩⟩
theorem jPast_to {q : Nat → Nat} {g : Nat} {h : jH} (P : jPast q g h) : ∃ (c w : Nat) (K : Nat → jD), c ≤ 20 ∧ w < 20 ∧ cPast q c K h ∧ mPast c w K h ∧ ∀ i, i < c → bS g (K i) := by
  obtain ⟨c, w, hc, hw, a1, a2, a3, a4⟩ := P
  have : ∀ i, ∃ D : jD, i < c → cS (q (c - 1 - i)) D h ∧ bS g D ∧ mBlk (18 * ((w + 20 - i) % 20)) D h := by
    intro i
    by_cases hi : i < c
    · obtain ⟨D, d1, d2, d3⟩ := a4 i hi
      exact ⟨D, fun _ => ⟨d1, d2, d3⟩⟩
    · exact ⟨fun _ _ => 0, fun h => absurd h hi⟩
  obtain ⟨K, hK⟩ := Classical.axiomOfChoice this
  exact ⟨c, w, K, hc, hw, ⟨a1, fun i hi => (hK i hi).1⟩, ⟨a2, a3, fun i hi => (hK i hi).2.2⟩, fun i hi => (hK i hi).2.1⟩
def eKs (S : jD) (K : Nat → jD) : Nat → jD := fun i => if i = 0 then S else K (i - 1)
section EP
variable {p d g : Nat} {D S : jD} {h : jH} {q : Nat → Nat}
theorem sSd_copyFrom {o v : Nat} (hd : o + 2 < v ∨ v + 2 < o) (c : cS v S h) : ∃ h', fSd_copyFrom o v h = some h' ∧ eFr (fun o' _ => o ≤ o' ∧ o' ≤ o + 2) h h' ∧ cS o S h' := by
  unfold fSd_copyFrom
  have hl := jlim_cnt (step := fSd_copyFrom_l18 o v) (fun k (x : jH) => (jz k, x)) (fun k x => eFr (fun o' _ => o ≤ o' ∧ o' ≤ o + 2) h x ∧ x.1 o 0 = jz (S 0 1) ∧ x.1 o 1 = jz (S 0 2) ∧ ∀ j, j < k → x.1 (o + 1) j = jz (S 1 j) ∧ x.1 (o + 2) j = jz (S 2 j)) (fun x => eFr (fun o' _ => o ≤ o' ∧ o' ≤ o + 2) h x ∧ cS o S x) 8 8 0 (by omega) (jhI (jhI h o 0 (h.1 v 0)) o 1 ((jhI h o 0 (h.1 v 0)).1 v 1)) ?_ ?_ ?_
  · obtain ⟨x, h1, h2⟩ := hl
    refine ⟨x, ?_, h2⟩
    rw [show (0 : Int32) = jz ((0 : Nat) : Int) from rfl, h1]
    rfl
  · refine ⟨eFr_I (S := fun o' _ => o ≤ o' ∧ o' ≤ o + 2) (eFr_I (S := fun o' _ => o ≤ o' ∧ o' ≤ o + 2) (eFr_refl _ h) (by omega) _) (by omega) _, ?_, ?_, fun j hj => by omega⟩
    · simp (disch := omega) only [jhI_1, jhI_2, jhL_1, jhL_2, if_neg, if_pos, eq_self, and_self, if_true, if_false, Nat.reduceEqDiff, false_and, and_false, true_and, and_true, c.1]
    · simp (disch := omega) only [jhI_1, jhI_2, jhL_1, jhL_2, if_neg, if_pos, eq_self, and_self, if_true, if_false, Nat.reduceEqDiff, false_and, and_false, true_and, and_true, c.2.1]
  · rintro k x _ hk ⟨q1, q2, q3, q4⟩
    have e1 := (c.2.2 k hk).1
    have e2 := (c.2.2 k hk).2
    have f1 : x.1 (v + 1) k = jz (S 1 k) := by rw [q1.1 _ _ (by omega)]; exact e1
    have f2 : x.1 (v + 2) k = jz (S 2 k) := by rw [q1.1 _ _ (by omega)]; exact e2
    refine ⟨jhI (jhI x (o + 1) k (jz (S 1 k))) (o + 2) k (jz (S 2 k)), ?_, eFr_I (S := fun o' _ => o ≤ o' ∧ o' ≤ o + 2) (eFr_I (S := fun o' _ => o ≤ o' ∧ o' ≤ o + 2) q1 (by omega) _) (by omega) _, ?_, ?_, fun j hj => ?_⟩
    · simp only [fSd_copyFrom_l18, fSd_copyFrom_l18_b]
      simp (disch := omega) only [Bool.false_eq_true, jz_lit, jz_neg, jz_nat, jz_add, jz_sub, jz_mul, jz_lt, jz_le, jz_eq, jz_ix, jin_z, jz_div, jzw, jwz, jw_lit, jw_neg, jw_add, jw_sub, jw_mul, jw_lt, jw_le, jw_eq, jw_div, Int.toNat_natCast, if_pos, if_neg, if_true, if_false, Option.bind_some, Int.natCast_add, Int.natCast_mul, Int.cast_ofNat_Int, Int.reduceToNat, Int.reduceAdd, Int.reduceMul, Int.reduceSub, Int.reduceNeg, Nat.reduceAdd, Nat.reduceMul, f1]
      rw [jhI_1, if_neg (by omega), f2]
    · simp (disch := omega) only [jhI_1, jhI_2, jhL_1, jhL_2, if_neg, if_pos, eq_self, and_self, if_true, if_false, Nat.reduceEqDiff, false_and, and_false, true_and, and_true, q2]
    · simp (disch := omega) only [jhI_1, jhI_2, jhL_1, jhL_2, if_neg, if_pos, eq_self, and_self, if_true, if_false, Nat.reduceEqDiff, false_and, and_false, true_and, and_true, q3]
    · by_cases e : j = k
      · subst e
        constructor
        · rw [jhI_1, if_neg (by omega), jhI_1, if_pos ⟨rfl, rfl⟩]
        · rw [jhI_1, if_pos ⟨rfl, rfl⟩]
      · have := q4 j (by omega)
        constructor
        · rw [jhI_1, if_neg (by omega), jhI_1, if_neg (by omega)]; exact this.1
        · rw [jhI_1, if_neg (by omega), jhI_1, if_neg (by omega)]; exact this.2
  · rintro x ⟨q1, q2, q3, q4⟩
    refine ⟨x, ?_, q1, q2, q3, q4⟩
    simp only [fSd_copyFrom_l18, fSd_copyFrom_l18_b]
    simp (disch := omega) only [Bool.false_eq_true, jz_lit, jz_neg, jz_nat, jz_add, jz_sub, jz_mul, jz_lt, jz_le, jz_eq, jz_ix, jin_z, jz_div, jzw, jwz, jw_lit, jw_neg, jw_add, jw_sub, jw_mul, jw_lt, jw_le, jw_eq, jw_div, Int.toNat_natCast, if_pos, if_neg, if_true, if_false, Option.bind_some, Int.natCast_add, Int.natCast_mul, Int.cast_ofNat_Int, Int.reduceToNat, Int.reduceAdd, Int.reduceMul, Int.reduceSub, Int.reduceNeg, Nat.reduceAdd, Nat.reduceMul]
theorem jq0_far (hq : jq0 q) {i j : Nat} (hi : i < 20) (hj : j < 20) (e : i ≠ j) : q i + 2 < q j ∨ q j + 2 < q i := by
  have a := hq.1 i hi
  have b := hq.1 j hj
  have c : ¬ q i = q j := fun x => e (hq.2 i j hi hj x)
  omega
theorem sPa_drop (hq : jq0 q) : ∃ q', fPa_dropOldest q h = some (q', jhI h 17 1 (jz 19)) ∧ jq0 q' ∧ ∀ i, i < 19 → q' i = q (i + 1) := by
  have hl : jlim (fPa_dropOldest_l9 (q 0) h) (jz 1, q) = some (fun i => if i < 19 then q (i + 1) else q i) := by
    have : jlim (fPa_dropOldest_l9 (q 0) h) ((fun k : Nat => (jz ((k + 1 : Nat) : Int), fun i => if i < k then q (i + 1) else q i)) 0) = some (fun i => if i < 19 then q (i + 1) else q i) := by
      refine jlim_go (fun k : Nat => (jz ((k + 1 : Nat) : Int), fun i => if i < k then q (i + 1) else q i)) 19 rfl (fun k hk => ?_) ?_
      · have e1 : ((k : Int) + 1 - 1).toNat = k := by omega
        have e2 : ((k : Int) + 1).toNat = k + 1 := by omega
        simp only [fPa_dropOldest_l9, fPa_dropOldest_l9_b]
        simp (disch := omega) only [Bool.false_eq_true, jz_lit, jz_neg, jz_nat, jz_add, jz_sub, jz_mul, jz_lt, jz_le, jz_eq, jz_ix, jin_z, jz_div, jzw, jwz, jw_lit, jw_neg, jw_add, jw_sub, jw_mul, jw_lt, jw_le, jw_eq, jw_div, Int.toNat_natCast, if_pos, if_neg, if_true, if_false, Option.bind_some, Int.natCast_add, Int.natCast_mul, Int.cast_ofNat_Int, Int.reduceToNat, Int.reduceAdd, Int.reduceMul, Int.reduceSub, Int.reduceNeg, Nat.reduceAdd, Nat.reduceMul, e1, e2]
        congr 3
        funext i
        unfold jqs
        by_cases e : i = k
        · subst e
          simp
        · by_cases f : i < k
          · simp [e, f, show i < k + 1 by omega]
          · simp [e, f, show ¬ i < k + 1 by omega]
      · simp only [fPa_dropOldest_l9, fPa_dropOldest_l9_b]
        simp (disch := omega) only [Bool.false_eq_true, jz_lit, jz_neg, jz_nat, jz_add, jz_sub, jz_mul, jz_lt, jz_le, jz_eq, jz_ix, jin_z, jz_div, jzw, jwz, jw_lit, jw_neg, jw_add, jw_sub, jw_mul, jw_lt, jw_le, jw_eq, jw_div, Int.toNat_natCast, if_pos, if_neg, if_true, if_false, Option.bind_some, Int.natCast_add, Int.natCast_mul, Int.cast_ofNat_Int, Int.reduceToNat, Int.reduceAdd, Int.reduceMul, Int.reduceSub, Int.reduceNeg, Nat.reduceAdd, Nat.reduceMul]
    exact this
  refine ⟨jqs (fun i => if i < 19 then q (i + 1) else q i) 19 (q 0), ?_, ?_, fun i hi => ?_⟩
  · unfold fPa_dropOldest
    simp (disch := omega) only [Bool.false_eq_true, jz_lit, jz_neg, jz_nat, jz_add, jz_sub, jz_mul, jz_lt, jz_le, jz_eq, jz_ix, jin_z, jz_div, jzw, jwz, jw_lit, jw_neg, jw_add, jw_sub, jw_mul, jw_lt, jw_le, jw_eq, jw_div, Int.toNat_natCast, if_pos, if_neg, if_true, if_false, Option.bind_some, Int.natCast_add, Int.natCast_mul, Int.cast_ofNat_Int, Int.reduceToNat, Int.reduceAdd, Int.reduceMul, Int.reduceSub, Int.reduceNeg, Nat.reduceAdd, Nat.reduceMul, hl]
  · have ev : ∀ i, i < 20 → jqs (fun i => if i < 19 then q (i + 1) else q i) 19 (q 0) i = q ((i + 1) % 20) := by
      intro i hi
      unfold jqs
      by_cases e : i = 19
      · rw [if_pos e, e]
      · rw [if_neg e]
        show (if i < 19 then q (i + 1) else q i) = _
        rw [if_pos (by omega), show (i + 1) % 20 = i + 1 by omega]
    refine ⟨fun i hi => ?_, fun i j hi hj e => ?_⟩
    · rw [ev i hi]; exact hq.1 _ (by omega)
    · rw [ev i hi, ev j hj] at e
      have := hq.2 _ _ (by omega) (by omega) e
      omega
  · unfold jqs
    rw [if_neg (by omega)]
    show (if i < 19 then q (i + 1) else q i) = _
    rw [if_pos hi]
/-- cells of the class's past -/
def ePC (o k : Nat) : Prop := (19 ≤ o ∧ o ≤ 78) ∨ (o = 17 ∧ k = 1)
theorem sPa_keep13 {c : Nat} {K : Nat → jD} (hq : jq0 q) (hc : c < 20) (a : cPast q c K h) (cs : cS 11 S h) : ∃ h', fPa_keep_j13 q 11 h = some (q, h') ∧ eFr ePC h h' ∧ cPast q (c + 1) (eKs S K) h' := by
  have hqc := hq.1 c hc
  obtain ⟨x, e1, f1, r1⟩ := sSd_copyFrom (o := q c) (v := 11) (by omega) cs
  refine ⟨jhI x 17 1 (jz ((c + 1 : Nat) : Int)), ?_, ?_, ?_, fun i hi => ?_⟩
  · have e2 : x.1 17 1 = jz c := by rw [f1.1 _ _ (by omega)]; exact a.1
    unfold fPa_keep_j13
    rw [a.1]
    simp (disch := omega) only [Bool.false_eq_true, jz_lit, jz_neg, jz_nat, jz_add, jz_sub, jz_mul, jz_lt, jz_le, jz_eq, jz_ix, jin_z, jz_div, jzw, jwz, jw_lit, jw_neg, jw_add, jw_sub, jw_mul, jw_lt, jw_le, jw_eq, jw_div, Int.toNat_natCast, if_pos, if_neg, if_true, if_false, Option.bind_some, Int.natCast_add, Int.natCast_mul, Int.cast_ofNat_Int, Int.reduceToNat, Int.reduceAdd, Int.reduceMul, Int.reduceSub, Int.reduceNeg, Nat.reduceAdd, Nat.reduceMul, e1, e2]
  · exact eFr_I (S := ePC) (eFr_mono f1 (fun o k hk => Or.inl (by omega))) (Or.inr ⟨rfl, rfl⟩) _
  · rfl
  · unfold eKs
    by_cases e : i = 0
    · subst e
      rw [if_pos rfl, show c + 1 - 1 - 0 = c by omega]
      exact cS_fr (fun o' k hk => by rw [jhI_1, if_neg (by omega)]) r1
    · rw [if_neg e, show c + 1 - 1 - i = c - 1 - (i - 1) by omega]
      have hj := hq.1 (c - 1 - (i - 1)) (by omega)
      have hf := jq0_far hq (show c - 1 - (i - 1) < 20 by omega) hc (by omega)
      exact cS_fr (fun o' k hk => by rw [jhI_1, if_neg (by omega), f1.1 _ _ (by omega)]) (a.2 (i - 1) (by omega))
theorem sPa_keep {c : Nat} {K : Nat → jD} (hq : jq0 q) (hc : c ≤ 20) (a : cPast q c K h) (cs : cS 11 S h) : ∃ q' h', fPa_keep q 11 h = some (q', h') ∧ jq0 q' ∧ eFr ePC h h' ∧ cPast q' (if c < 20 then c + 1 else 20) (eKs S K) h' := by
  unfold fPa_keep
  rw [a.1]
  by_cases e : c < 20
  · obtain ⟨h', e1, f1, r1⟩ := sPa_keep13 hq e a cs
    refine ⟨q, h', ?_, hq, f1, ?_⟩
    · simp (disch := omega) only [Bool.false_eq_true, jz_lit, jz_neg, jz_nat, jz_add, jz_sub, jz_mul, jz_lt, jz_le, jz_eq, jz_ix, jin_z, jz_div, jzw, jwz, jw_lit, jw_neg, jw_add, jw_sub, jw_mul, jw_lt, jw_le, jw_eq, jw_div, Int.toNat_natCast, if_pos, if_neg, if_true, if_false, Option.bind_some, Int.natCast_add, Int.natCast_mul, Int.cast_ofNat_Int, Int.reduceToNat, Int.reduceAdd, Int.reduceMul, Int.reduceSub, Int.reduceNeg, Nat.reduceAdd, Nat.reduceMul, e1]
    · rw [if_pos e]; exact r1
  · obtain ⟨q', e1, hq', hs⟩ := sPa_drop (h := h) hq
    have a' : cPast q' 19 K (jhI h 17 1 (jz 19)) := by
      refine ⟨rfl, fun i hi => ?_⟩
      have := a.2 i (by omega)
      rw [hs _ (by omega), show 19 - 1 - i + 1 = c - 1 - i by omega]
      have hj := hq.1 (c - 1 - i) (by omega)
      exact cS_fr (fun o' k hk => by rw [jhI_1, if_neg (by omega)]) this
    have cs' : cS 11 S (jhI h 17 1 (jz 19)) := cS_fr (fun o' k hk => by rw [jhI_1, if_neg (by omega)]) cs
    obtain ⟨h', e2, f2, r2⟩ := sPa_keep13 hq' (by omega) a' cs'
    refine ⟨q', h', ?_, hq', eFr_trans (eFr_I (S := ePC) (eFr_refl _ h) (Or.inr ⟨rfl, rfl⟩) _) f2, ?_⟩
    · simp (disch := omega) only [Bool.false_eq_true, jz_lit, jz_neg, jz_nat, jz_add, jz_sub, jz_mul, jz_lt, jz_le, jz_eq, jz_ix, jin_z, jz_div, jzw, jwz, jw_lit, jw_neg, jw_add, jw_sub, jw_mul, jw_lt, jw_le, jw_eq, jw_div, Int.toNat_natCast, if_pos, if_neg, if_true, if_false, Option.bind_some, Int.natCast_add, Int.natCast_mul, Int.cast_ofNat_Int, Int.reduceToNat, Int.reduceAdd, Int.reduceMul, Int.reduceSub, Int.reduceNeg, Nat.reduceAdd, Nat.reduceMul, e1, e2]
    · rw [if_neg e]; exact r2
/-- cells of the reference's past -/
def ePM (o k : Nat) : Prop := o = 152 ∨ (o = 110 ∧ (k = 56 ∨ k = 57))
theorem mBlk_fr {b : Nat} {h' : jH} (e : ∀ k, b ≤ k → k < b + 18 → h'.1 152 k = h.1 152 k) (v : mBlk b S h) : mBlk b S h' := by
  refine ⟨by rw [e _ (by omega) (by omega)]; exact v.1, by rw [e _ (by omega) (by omega)]; exact v.2.1, fun k hk => ⟨by rw [e _ (by omega) (by omega)]; exact (v.2.2 k hk).1, by rw [e _ (by omega) (by omega)]; exact (v.2.2 k hk).2⟩⟩
/-- the eighteen numbers of a standing -/
theorem eRow18 {o b o' b' : Nat} {h' : jH} (v : h.1 o b = jz (S 0 1) ∧ h.1 o (b + 1) = jz (S 0 2) ∧ ∀ k, k < 8 → h.1 o (b + 2 + 2 * k) = jz (S 1 k) ∧ h.1 o (b + 2 + 2 * k + 1) = jz (S 2 k)) (e : ∀ j, j < 18 → h'.1 o' (b' + j) = h.1 o (b + j)) : h'.1 o' b' = jz (S 0 1) ∧ h'.1 o' (b' + 1) = jz (S 0 2) ∧ ∀ k, k < 8 → h'.1 o' (b' + 2 + 2 * k) = jz (S 1 k) ∧ h'.1 o' (b' + 2 + 2 * k + 1) = jz (S 2 k) := by
  refine ⟨?_, ?_, fun k hk => ⟨?_, ?_⟩⟩
  · have := e 0 (by omega); rw [Nat.add_zero, Nat.add_zero] at this; rw [this]; exact v.1
  · rw [e 1 (by omega)]; exact v.2.1
  · rw [show b' + 2 + 2 * k = b' + (2 + 2 * k) by omega, e _ (by omega), show b + (2 + 2 * k) = b + 2 + 2 * k by omega]; exact (v.2.2 k hk).1
  · rw [show b' + 2 + 2 * k + 1 = b' + (2 + 2 * k + 1) by omega, e _ (by omega), show b + (2 + 2 * k + 1) = b + 2 + 2 * k + 1 by omega]; exact (v.2.2 k hk).2
theorem mS_row (ms : mS S h) : h.1 148 0 = jz (S 0 1) ∧ h.1 148 (0 + 1) = jz (S 0 2) ∧ ∀ k, k < 8 → h.1 148 (0 + 2 + 2 * k) = jz (S 1 k) ∧ h.1 148 (0 + 2 + 2 * k + 1) = jz (S 2 k) := by
  refine ⟨ms.1, ms.2.1, fun k hk => ?_⟩
  rw [show 0 + 2 + 2 * k = 2 + 2 * k by omega]
  exact ms.2.2 k hk
theorem mS_of_row (v : h.1 148 0 = jz (S 0 1) ∧ h.1 148 (0 + 1) = jz (S 0 2) ∧ ∀ k, k < 8 → h.1 148 (0 + 2 + 2 * k) = jz (S 1 k) ∧ h.1 148 (0 + 2 + 2 * k + 1) = jz (S 2 k)) : mS S h := by
  refine ⟨v.1, v.2.1, fun k hk => ?_⟩
  have := v.2.2 k hk
  rw [show 0 + 2 + 2 * k = 2 + 2 * k by omega] at this
  exact this
theorem sM_keeps {c w : Nat} {K : Nat → jD} (hc : c ≤ 20) (hw : w < 20) (a : mPast c w K h) (ms : mS S h) : ∃ h', fM_keeps h = some h' ∧ eFr ePM h h' ∧ mPast (if c < 20 then c + 1 else 20) ((w + 1) % 20) (eKs S K) h' := by
  have hw2 : (w + 1) % 20 < 20 := by omega
  have hwi : ((w : Int) + 1) - ((w : Int) + 1).tdiv 20 * 20 = (((w + 1) % 20 : Nat) : Int) := by
    rw [tdiv_nn (by omega)]; omega
  unfold fM_keeps
  rw [a.2.1]
  generalize hu : (w + 1) % 20 = u at *
  have hl := jlim_cnt (step := fM_keeps_l15) (fun k (x : jH) => (jz k, x)) (fun k x => eFr (fun o k => (o = 152 ∧ 18 * u ≤ k ∧ k < 18 * u + 18) ∨ (o = 110 ∧ k = 57)) h x ∧ x.1 110 57 = jz u ∧ ∀ j, j < k → x.1 152 (18 * u + j) = h.1 148 j) (fun x => eFr (fun o k => (o = 152 ∧ 18 * u ≤ k ∧ k < 18 * u + 18) ∨ (o = 110 ∧ k = 57)) h x ∧ x.1 110 57 = jz u ∧ ∀ j, j < 18 → x.1 152 (18 * u + j) = h.1 148 j) 18 18 0 (by omega) (jhI h 110 57 (jz u)) ?_ ?_ ?_
  · obtain ⟨x, e1, f1, r1, r2⟩ := hl
    have e1' : jlim fM_keeps_l15 (jz 0, jhI h 110 57 (jz u)) = some x := e1
    have r3 : x.1 110 56 = jz c := by rw [f1.1 _ _ (by omega)]; exact a.1
    have blk : ∀ y : jH, (∀ k, y.1 152 k = x.1 152 k) → ∀ i, i < (if c < 20 then c + 1 else 20) → mBlk (18 * ((u + 20 - i) % 20)) (eKs S K i) y := by
      intro y hy i hi
      unfold eKs
      by_cases e : i = 0
      · subst e
        rw [if_pos rfl, show (u + 20 - 0) % 20 = u by omega]
        exact eRow18 (o' := 152) (b' := 18 * u) (mS_row ms) (fun j hj => by rw [hy, r2 j hj, Nat.zero_add])
      · have hi2 : i - 1 < c := by split at hi <;> omega
        have hi3 : i < 20 := by split at hi <;> omega
        rw [if_neg e, show (u + 20 - i) % 20 = (w + 20 - (i - 1)) % 20 by omega]
        refine mBlk_fr (fun k h1 h2 => ?_) (a.2.2 (i - 1) hi2)
        rw [hy, f1.1 _ _ (by omega)]
    by_cases e : c < 20
    · refine ⟨jhI x 110 56 (jz ((c + 1 : Nat) : Int)), ?_, ?_, ?_, ?_, blk _ (fun k => by rw [jhI_1, if_neg (by omega)])⟩
      · simp (disch := omega) only [Bool.false_eq_true, jz_lit, jz_neg, jz_nat, jz_add, jz_sub, jz_mul, jz_lt, jz_le, jz_eq, jz_ix, jin_z, jz_div, jzw, jwz, jw_lit, jw_neg, jw_add, jw_sub, jw_mul, jw_lt, jw_le, jw_eq, jw_div, Int.toNat_natCast, if_pos, if_neg, if_true, if_false, Option.bind_some, Int.natCast_add, Int.natCast_mul, Int.cast_ofNat_Int, Int.reduceToNat, Int.reduceAdd, Int.reduceMul, Int.reduceSub, Int.reduceNeg, Nat.reduceAdd, Nat.reduceMul, hwi, e1', r3]
      · exact eFr_I (S := ePM) (eFr_mono f1 (fun o k hk => by unfold ePM; omega)) (Or.inr ⟨rfl, Or.inl rfl⟩) _
      · rw [if_pos e]; rfl
      · rw [jhI_1, if_neg (by omega)]; exact r1
    · refine ⟨x, ?_, eFr_mono f1 (fun o k hk => by unfold ePM; omega), ?_, r1, blk x (fun k => rfl)⟩
      · simp (disch := omega) only [Bool.false_eq_true, jz_lit, jz_neg, jz_nat, jz_add, jz_sub, jz_mul, jz_lt, jz_le, jz_eq, jz_ix, jin_z, jz_div, jzw, jwz, jw_lit, jw_neg, jw_add, jw_sub, jw_mul, jw_lt, jw_le, jw_eq, jw_div, Int.toNat_natCast, if_pos, if_neg, if_true, if_false, Option.bind_some, Int.natCast_add, Int.natCast_mul, Int.cast_ofNat_Int, Int.reduceToNat, Int.reduceAdd, Int.reduceMul, Int.reduceSub, Int.reduceNeg, Nat.reduceAdd, Nat.reduceMul, hwi, e1', r3]
      · rw [if_neg e, r3, show c = 20 by omega]
  · exact ⟨eFr_I (S := fun o k => (o = 152 ∧ 18 * u ≤ k ∧ k < 18 * u + 18) ∨ (o = 110 ∧ k = 57)) (eFr_refl _ h) (Or.inr ⟨rfl, rfl⟩) _, rfl, fun j hj => by omega⟩
  · rintro k x _ hk ⟨q1, q2, q3⟩
    have e1 : x.1 148 k = h.1 148 k := q1.1 _ _ (by omega)
    have ix : ((18 : Int) * (u : Int) + (k : Int)).toNat = 18 * u + k := by omega
    refine ⟨jhI x 152 (18 * u + k) (h.1 148 k), ?_, eFr_I (S := fun o k => (o = 152 ∧ 18 * u ≤ k ∧ k < 18 * u + 18) ∨ (o = 110 ∧ k = 57)) q1 (Or.inl ⟨rfl, by omega, by omega⟩) _, ?_, fun j hj => ?_⟩
    · simp only [fM_keeps_l15, fM_keeps_l15_b, q2]
      simp (disch := omega) only [Bool.false_eq_true, jz_lit, jz_neg, jz_nat, jz_add, jz_sub, jz_mul, jz_lt, jz_le, jz_eq, jz_ix, jin_z, jz_div, jzw, jwz, jw_lit, jw_neg, jw_add, jw_sub, jw_mul, jw_lt, jw_le, jw_eq, jw_div, Int.toNat_natCast, if_pos, if_neg, if_true, if_false, Option.bind_some, Int.natCast_add, Int.natCast_mul, Int.cast_ofNat_Int, Int.reduceToNat, Int.reduceAdd, Int.reduceMul, Int.reduceSub, Int.reduceNeg, Nat.reduceAdd, Nat.reduceMul, ix, e1]
    · rw [jhI_1, if_neg (by omega)]; exact q2
    · by_cases e : j = k
      · subst e; rw [jhI_1, if_pos ⟨rfl, rfl⟩]
      · rw [jhI_1, if_neg (by omega)]; exact q3 j (by omega)
  · rintro x ⟨q1, q2, q3⟩
    refine ⟨x, ?_, q1, q2, q3⟩
    simp only [fM_keeps_l15, fM_keeps_l15_b]
    simp (disch := omega) only [Bool.false_eq_true, jz_lit, jz_neg, jz_nat, jz_add, jz_sub, jz_mul, jz_lt, jz_le, jz_eq, jz_ix, jin_z, jz_div, jzw, jwz, jw_lit, jw_neg, jw_add, jw_sub, jw_mul, jw_lt, jw_le, jw_eq, jw_div, Int.toNat_natCast, if_pos, if_neg, if_true, if_false, Option.bind_some, Int.natCast_add, Int.natCast_mul, Int.cast_ofNat_Int, Int.reduceToNat, Int.reduceAdd, Int.reduceMul, Int.reduceSub, Int.reduceNeg, Nat.reduceAdd, Nat.reduceMul]
theorem cPast_fr {c : Nat} {K : Nat → jD} {h' : jH} (hq : jq0 q) (hc : c ≤ 20) (e : ∀ o k, ePC o k → h'.1 o k = h.1 o k) (a : cPast q c K h) : cPast q c K h' := by
  refine ⟨by rw [e _ _ (Or.inr ⟨rfl, rfl⟩)]; exact a.1, fun i hi => ?_⟩
  have := hq.1 (c - 1 - i) (by omega)
  exact cS_fr (fun o k hk => e _ _ (Or.inl (by omega))) (a.2 i hi)
theorem mPast_fr {c w : Nat} {K : Nat → jD} {h' : jH} (e : ∀ o k, ePM o k → h'.1 o k = h.1 o k) (a : mPast c w K h) : mPast c w K h' := by
  refine ⟨by rw [e _ _ (Or.inr ⟨rfl, Or.inl rfl⟩)]; exact a.1, by rw [e _ _ (Or.inr ⟨rfl, Or.inr rfl⟩)]; exact a.2.1, fun i hi => ?_⟩
  exact mBlk_fr (fun k _ _ => e _ _ (Or.inl rfl)) (a.2.2 i hi)
theorem eKs_b {c : Nat} {K : Nat → jD} (bs : bS g S) (d : ∀ i, i < c → bS g (K i)) : ∀ i, i < (if c < 20 then c + 1 else 20) → c ≤ 20 → bS g (eKs S K i) := by
  intro i hi hc
  unfold eKs
  split
  · exact bs
  · exact d _ (by split at hi <;> omega)
end EP
theorem call_28 : jcal_28 jInv := by
  intro p d q h V
  have V0 := V
  obtain ⟨hpd, hq, v1, v2, v3, v4, v5, v6, g, D, S, L, u1, u2, u3⟩ := V
  obtain ⟨c, w, K, hc, hw, a1, a2, a3⟩ := jPast_to u3
  by_cases e : c = 0
  · subst e
    refine ⟨(jz 0, jhI h 97 4 (h.1 97 4 + 1)), ?_, (jz 0, jhI (jhI h 97 4 (h.1 97 4 + 1)) 112 4 (h.1 112 4 + 1)), ?_, rfl, eInv_ref V0 (by omega)⟩
    · have r := sA_refuse (k := 4) (by omega) h
      unfold fA_undo fPa_giveBack
      rw [a1.1]
      simp (disch := omega) only [Bool.false_eq_true, jz_lit, jz_neg, jz_nat, jz_add, jz_sub, jz_mul, jz_lt, jz_le, jz_eq, jz_ix, jin_z, jz_div, jzw, jwz, jw_lit, jw_neg, jw_add, jw_sub, jw_mul, jw_lt, jw_le, jw_eq, jw_div, Int.toNat_natCast, if_pos, if_neg, if_true, if_false, Option.bind_some, Int.natCast_add, Int.natCast_mul, Int.cast_ofNat_Int, Int.reduceToNat, Int.reduceAdd, Int.reduceMul, Int.reduceSub, Int.reduceNeg, Nat.reduceAdd, Nat.reduceMul, show fA_refuse (jz 4) h = _ from r]
    · have r : (jhI h 97 4 (h.1 97 4 + 1)).1 110 56 = jz ((0 : Nat) : Int) := a2.1
      unfold fM_undo
      rw [r]
      simp (disch := omega) only [Bool.false_eq_true, jz_lit, jz_neg, jz_nat, jz_add, jz_sub, jz_mul, jz_lt, jz_le, jz_eq, jz_ix, jin_z, jz_div, jzw, jwz, jw_lit, jw_neg, jw_add, jw_sub, jw_mul, jw_lt, jw_le, jw_eq, jw_div, Int.toNat_natCast, if_pos, if_neg, if_true, if_false, Option.bind_some, Int.natCast_add, Int.natCast_mul, Int.cast_ofNat_Int, Int.reduceToNat, Int.reduceAdd, Int.reduceMul, Int.reduceSub, Int.reduceNeg, Nat.reduceAdd, Nat.reduceMul, jhI_1]
  · have hq0 := hq.1 (c - 1) (by omega)
    have r0 := a1.2 0 (by omega)
    rw [show c - 1 - 0 = c - 1 by omega] at r0
    have r1 : cS (q (c - 1)) (K 0) (jhI h 17 1 (jz ((c - 1 : Nat) : Int))) := cS_fr (fun o' k hk => by rw [jhI_1, if_neg (by omega)]) r0
    obtain ⟨h1, e1, f1, s1⟩ := sSd_copyFrom (o := 11) (v := q (c - 1)) (by omega) r1
    have c9 : (((c : Int) - 1).toNat) = c - 1 := by omega
    have hc9 : (c : Int) - 1 = ((c - 1 : Nat) : Int) := by omega
    -- what the class leaves
    have F1 : eFr (fun o k => (11 ≤ o ∧ o ≤ 13) ∨ (o = 17 ∧ k = 1)) h h1 := eFr_trans (eFr_I (S := fun o k => (11 ≤ o ∧ o ≤ 13) ∨ (o = 17 ∧ k = 1)) (eFr_refl _ h) (Or.inr ⟨rfl, rfl⟩) _) (eFr_mono f1 (fun o k hk => Or.inl (by omega)))
    have A2 : mPast c w K h1 := mPast_fr (fun o k hk => F1.1 _ _ (by unfold ePM at hk; omega)) a2
    have bl := A2.2.2 0 (by omega)
    rw [show (w + 20 - 0) % 20 = w by omega] at bl
    have hl := jlim_cnt (step := fM_undo_l21) (fun k (x : jH) => (jz k, x)) (fun k x => eFr (fun o k => o = 148 ∧ k < 18) h1 x ∧ ∀ j, j < k → x.1 148 j = h1.1 152 (18 * w + j)) (fun x => eFr (fun o k => o = 148 ∧ k < 18) h1 x ∧ ∀ j, j < 18 → x.1 148 j = h1.1 152 (18 * w + j)) 18 18 0 (by omega) h1 ⟨eFr_refl _ _, fun j hj => by omega⟩ ?_ ?_
    · obtain ⟨x, e2, f2, r2⟩ := hl
      have e2' : jlim fM_undo_l21 (jz 0, h1) = some x := e2
      have x57 : x.1 110 57 = jz w := by rw [f2.1 _ _ (by omega)]; exact A2.2.1
      have x56 : x.1 110 56 = jz c := by rw [f2.1 _ _ (by omega)]; exact A2.1
      have hwi : (((w : Int) + 20) - 1) - (((w : Int) + 20) - 1).tdiv 20 * 20 = (((w + 19) % 20 : Nat) : Int) := by
        rw [tdiv_nn (by omega)]; omega
      have mx : mS (K 0) x := mS_of_row (eRow18 (o' := 148) (b' := 0) bl (fun j hj => by rw [Nat.zero_add]; exact r2 j hj))
      refine ⟨(jz 1, h1), ?_, (jz 1, jhI (jhI x 110 57 (jz (((w + 19) % 20 : Nat) : Int))) 110 56 (jz ((c - 1 : Nat) : Int))), ?_, rfl, hpd, hq, ?_⟩
      · have e3 : fSd_copyFrom 11 (q (c - 1)) (jhI h 17 1 (jz ((c - 1 : Nat) : Int))) = some h1 := e1
        unfold fA_undo fPa_giveBack
        rw [a1.1]
        simp (disch := omega) only [Bool.false_eq_true, jz_lit, jz_neg, jz_nat, jz_add, jz_sub, jz_mul, jz_lt, jz_le, jz_eq, jz_ix, jin_z, jz_div, jzw, jwz, jw_lit, jw_neg, jw_add, jw_sub, jw_mul, jw_lt, jw_le, jw_eq, jw_div, Int.toNat_natCast, if_pos, if_neg, if_true, if_false, Option.bind_some, Int.natCast_add, Int.natCast_mul, Int.cast_ofNat_Int, Int.reduceToNat, Int.reduceAdd, Int.reduceMul, Int.reduceSub, Int.reduceNeg, Nat.reduceAdd, Nat.reduceMul, jhI_1, and_self, hc9, e3]
      · unfold fM_undo
        rw [A2.1]
        simp (disch := omega) only [Bool.false_eq_true, jz_lit, jz_neg, jz_nat, jz_add, jz_sub, jz_mul, jz_lt, jz_le, jz_eq, jz_ix, jin_z, jz_div, jzw, jwz, jw_lit, jw_neg, jw_add, jw_sub, jw_mul, jw_lt, jw_le, jw_eq, jw_div, Int.toNat_natCast, if_pos, if_neg, if_true, if_false, Option.bind_some, Int.natCast_add, Int.natCast_mul, Int.cast_ofNat_Int, Int.reduceToNat, Int.reduceAdd, Int.reduceMul, Int.reduceSub, Int.reduceNeg, Nat.reduceAdd, Nat.reduceMul, e2', x57, hwi]
        rw [jhI_1, if_neg (by omega), x56, jz_sub, hc9]
      · have F2 : ∀ o k, ¬ ((11 ≤ o ∧ o ≤ 13) ∨ (o = 17 ∧ k = 1) ∨ (o = 148 ∧ k < 18) ∨ (o = 110 ∧ (k = 56 ∨ k = 57))) → (jhI (jhI x 110 57 (jz (((w + 19) % 20 : Nat) : Int))) 110 56 (jz ((c - 1 : Nat) : Int))).1 o k = h.1 o k := by
          intro o k n
          rw [jhI_1, if_neg (by omega), jhI_1, if_neg (by omega), f2.1 _ _ (by omega), F1.1 _ _ (by omega)]
        have F3 : ∀ o k, ¬ ((11 ≤ o ∧ o ≤ 13) ∨ o = 17 ∨ o = 148) → (jhI (jhI x 110 57 (jz (((w + 19) % 20 : Nat) : Int))) 110 56 (jz ((c - 1 : Nat) : Int))).2 o k = h.2 o k := by
          intro o k n
          rw [jhI_2, jhI_2, f2.2 _ _ (by omega), F1.2 _ _ (by omega)]
        have hpd2 := hpd
        unfold iPD at hpd2
        have hs9 : cS 11 (K 0) (jhI (jhI x 110 57 (jz (((w + 19) % 20 : Nat) : Int))) 110 56 (jz ((c - 1 : Nat) : Int))) := cS_fr (fun o k hk => by rw [jhI_1, if_neg (by omega), jhI_1, if_neg (by omega), f2.1 _ _ (by omega)]) s1
        have hm9 : mS (K 0) (jhI (jhI x 110 57 (jz (((w + 19) % 20 : Nat) : Int))) 110 56 (jz ((c - 1 : Nat) : Int))) := mS_fr (fun k => by rw [jhI_1, if_neg (by omega), jhI_1, if_neg (by omega)]) mx
        refine ⟨eWd_fr (fun o k hk => F2 _ _ (by omega)) v1, iTape_fr (fun o k hk => F2 _ _ (by omega)) v2, iFault_fr (fun o k hk => F2 _ _ (by omega)) v3, iRef_fr (fun o k hk => F2 _ _ (by omega)) v4, iSeed_fr (F2 _ _ (by omega)) (F3 _ _ (by omega)) v5, iPic_fr (fun o k hk => F2 _ _ (by omega)) v6, g, D, K 0, L, iPlan_fr (fun o k hk => F2 _ _ (by omega)) (fun k hk => F3 _ _ (by omega)) u1, ⟨a3 0 (by omega), hs9, hm9⟩, jPast_of (c := c - 1) (w := (w + 19) % 20) (K := fun i => K (i + 1)) (by omega) (by omega) ⟨?_, fun i hi => ?_⟩ ⟨rfl, ?_, fun i hi => ?_⟩ (fun i hi => a3 (i + 1) (by omega))⟩
        · rw [jhI_1, if_neg (by omega), jhI_1, if_neg (by omega), f2.1 _ _ (by omega), f1.1 _ _ (by omega)]
          rfl
        · have hj := hq.1 (c - 1 - 1 - i) (by omega)
          have := a1.2 (i + 1) (by omega)
          rw [show c - 1 - (i + 1) = c - 1 - 1 - i by omega] at this
          exact cS_fr (fun o k hk => F2 _ _ (by omega)) this
        · rw [jhI_1, if_neg (by omega)]; rfl
        · have := a2.2.2 (i + 1) (by omega)
          rw [show (w + 20 - (i + 1)) % 20 = ((w + 19) % 20 + 20 - i) % 20 by omega] at this
          exact mBlk_fr (fun k _ _ => F2 _ _ (by omega)) this
    · rintro k x _ hk ⟨q1, q3⟩
      have e4 : x.1 152 (18 * w + k) = h1.1 152 (18 * w + k) := q1.1 _ _ (by omega)
      have x57 : x.1 110 57 = jz w := by rw [q1.1 _ _ (by omega)]; exact A2.2.1
      have ix : ((18 : Int) * (w : Int) + (k : Int)).toNat = 18 * w + k := by omega
      refine ⟨jhI x 148 k (h1.1 152 (18 * w + k)), ?_, eFr_I (S := fun o k => o = 148 ∧ k < 18) q1 ⟨rfl, hk⟩ _, fun j hj => ?_⟩
      · simp only [fM_undo_l21, fM_undo_l21_b, x57]
        simp (disch := omega) only [Bool.false_eq_true, jz_lit, jz_neg, jz_nat, jz_add, jz_sub, jz_mul, jz_lt, jz_le, jz_eq, jz_ix, jin_z, jz_div, jzw, jwz, jw_lit, jw_neg, jw_add, jw_sub, jw_mul, jw_lt, jw_le, jw_eq, jw_div, Int.toNat_natCast, if_pos, if_neg, if_true, if_false, Option.bind_some, Int.natCast_add, Int.natCast_mul, Int.cast_ofNat_Int, Int.reduceToNat, Int.reduceAdd, Int.reduceMul, Int.reduceSub, Int.reduceNeg, Nat.reduceAdd, Nat.reduceMul, ix, e4]
      · by_cases e : j = k
        · subst e; rw [jhI_1, if_pos ⟨rfl, rfl⟩]
        · rw [jhI_1, if_neg (by omega)]; exact q3 j (by omega)
    · rintro x ⟨q1, q3⟩
      refine ⟨x, ?_, q1, q3⟩
      simp only [fM_undo_l21, fM_undo_l21_b]
      simp (disch := omega) only [Bool.false_eq_true, jz_lit, jz_neg, jz_nat, jz_add, jz_sub, jz_mul, jz_lt, jz_le, jz_eq, jz_ix, jin_z, jz_div, jzw, jwz, jw_lit, jw_neg, jw_add, jw_sub, jw_mul, jw_lt, jw_le, jw_eq, jw_div, Int.toNat_natCast, if_pos, if_neg, if_true, if_false, Option.bind_some, Int.natCast_add, Int.natCast_mul, Int.cast_ofNat_Int, Int.reduceToNat, Int.reduceAdd, Int.reduceMul, Int.reduceSub, Int.reduceNeg, Nat.reduceAdd, Nat.reduceMul]
