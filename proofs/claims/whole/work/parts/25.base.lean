/-! Guests and how they stand: the small methods of both sides -/
/-- by how many of ten guest k comes -/
def eTens (D S : jD) (k : Nat) : Int := if S 1 k = 1 then D 3 k else if S 1 k = 2 then 10 else if S 1 k = 3 then 0 else if S 1 k = 4 then D 0 7 else 0
/-- a sum over the first n -/
def eSum (f : Nat → Int) : Nat → Int
  | 0 => 0
  | n + 1 => eSum f n + f n
theorem eSum_b {f : Nat → Int} {m : Int} : ∀ {n : Nat}, (∀ k, k < n → 0 ≤ f k ∧ f k ≤ m) → 0 ≤ eSum f n ∧ eSum f n ≤ m * n := by
  intro n
  induction n with
  | zero => intro _; simp [eSum]
  | succ n ih =>
    intro h
    have h1 := ih (fun k hk => h k (by omega))
    have h2 := h n (by omega)
    have : m * ((n + 1 : Nat) : Int) = m * n + m := by rw [Int.natCast_add, Int.mul_add]; simp
    rw [this]
    unfold eSum
    omega
theorem eSum_congr {f g : Nat → Int} : ∀ {n : Nat}, (∀ k, k < n → f k = g k) → eSum f n = eSum g n := by
  intro n
  induction n with
  | zero => intro _; rfl
  | succ n ih => intro h; unfold eSum; rw [ih (fun k hk => h k (by omega)), h n (by omega)]
theorem eSum_le {f : Nat → Int} {n m : Nat} (h : n ≤ m) (hf : ∀ k, n ≤ k → k < m → f k = 0) : eSum f m = eSum f n := by
  induction m with
  | zero => have : n = 0 := by omega
            subst this; rfl
  | succ m ih =>
    by_cases hn : n = m + 1
    · subst hn; rfl
    · show eSum f m + f m = _
      rw [hf m (by omega) (by omega), ih (by omega) (fun k h1 h2 => hf k h1 (by omega))]
      omega
theorem cS11 {S : jD} {h : jH} (c : cS 11 S h) : h.1 11 0 = jz (S 0 1) ∧ h.1 11 1 = jz (S 0 2) ∧ ∀ k, k < 8 → h.1 12 k = jz (S 1 k) ∧ h.1 13 k = jz (S 2 k) := c
theorem sM_guestMany {g : Nat} {D : jD} {h : jH} (m : mV g D h) : fM_guestMany h = some (jz g) := by
  unfold fM_guestMany
  simp (disch := omega) only [jz_lit, jz_neg, jz_nat, jz_add, jz_sub, jz_mul, jz_lt, jz_le, jz_eq, jz_ix, jin_z, jz_div, jzw, jwz, jw_lit, jw_neg, jw_add, jw_sub, jw_mul, jw_lt, jw_le, jw_eq, jw_div, Int.toNat_natCast, if_pos, if_neg, if_true, if_false, Option.bind_some, Int.natCast_add, Int.natCast_mul, Int.cast_ofNat_Int, Int.reduceToNat, Int.reduceAdd, Int.reduceMul, Int.reduceSub, Int.reduceNeg, Nat.reduceAdd, Nat.reduceMul, m.1]
section EB
variable {p g : Nat} {D S : jD} {h : jH}
theorem sM_howOf {k : Nat} (m : mS S h) (hk : k < 8) : fM_howOf (jz k) h = some (jz (S 1 k)) := by
  have m3 := m.2.2
  unfold fM_howOf
  simp (disch := omega) only [jz_lit, jz_neg, jz_nat, jz_add, jz_sub, jz_mul, jz_lt, jz_le, jz_eq, jz_ix, jin_z, jz_div, jzw, jwz, jw_lit, jw_neg, jw_add, jw_sub, jw_mul, jw_lt, jw_le, jw_eq, jw_div, Int.toNat_natCast, if_pos, if_neg, if_true, if_false, Option.bind_some, Int.natCast_add, Int.natCast_mul, Int.cast_ofNat_Int, Int.reduceToNat, Int.reduceAdd, Int.reduceMul, Int.reduceSub, Int.reduceNeg, Nat.reduceAdd, Nat.reduceMul]
  rw [show ((2 : Int) + 2 * (k : Int)).toNat = 2 + 2 * k by omega, (m3 k hk).1]
theorem sM_weeksOf {k : Nat} (m : mS S h) (hk : k < 8) : fM_weeksOf (jz k) h = some (jz (S 2 k)) := by
  have m3 := m.2.2
  unfold fM_weeksOf
  simp (disch := omega) only [jz_lit, jz_neg, jz_nat, jz_add, jz_sub, jz_mul, jz_lt, jz_le, jz_eq, jz_ix, jin_z, jz_div, jzw, jwz, jw_lit, jw_neg, jw_add, jw_sub, jw_mul, jw_lt, jw_le, jw_eq, jw_div, Int.toNat_natCast, if_pos, if_neg, if_true, if_false, Option.bind_some, Int.natCast_add, Int.natCast_mul, Int.cast_ofNat_Int, Int.reduceToNat, Int.reduceAdd, Int.reduceMul, Int.reduceSub, Int.reduceNeg, Nat.reduceAdd, Nat.reduceMul]
  rw [show ((2 : Int) + 2 * (k : Int) + 1).toNat = 2 + 2 * k + 1 by omega, (m3 k hk).2]
theorem sM_isAsked {k : Nat} (m : mS S h) (bs : bS g S) (hk : k < 8) : fM_isAsked (jz k) h = some (if S 1 k = 0 then jz 0 else jz 1) := by
  have b := bs.2.2.2.2 k hk
  unfold fM_isAsked
  rw [sM_howOf m hk]
  by_cases e : S 1 k = 0
  · simp (disch := omega) only [jz_lit, jz_neg, jz_nat, jz_add, jz_sub, jz_mul, jz_lt, jz_le, jz_eq, jz_ix, jin_z, jz_div, jzw, jwz, jw_lit, jw_neg, jw_add, jw_sub, jw_mul, jw_lt, jw_le, jw_eq, jw_div, Int.toNat_natCast, if_pos, if_neg, if_true, if_false, Option.bind_some, Int.natCast_add, Int.natCast_mul, Int.cast_ofNat_Int, Int.reduceToNat, Int.reduceAdd, Int.reduceMul, Int.reduceSub, Int.reduceNeg, Nat.reduceAdd, Nat.reduceMul, e]
  · simp (disch := omega) only [jz_lit, jz_neg, jz_nat, jz_add, jz_sub, jz_mul, jz_lt, jz_le, jz_eq, jz_ix, jin_z, jz_div, jzw, jwz, jw_lit, jw_neg, jw_add, jw_sub, jw_mul, jw_lt, jw_le, jw_eq, jw_div, Int.toNat_natCast, if_pos, if_neg, if_true, if_false, Option.bind_some, Int.natCast_add, Int.natCast_mul, Int.cast_ofNat_Int, Int.reduceToNat, Int.reduceAdd, Int.reduceMul, Int.reduceSub, Int.reduceNeg, Nat.reduceAdd, Nat.reduceMul, e]
theorem sM_toldOf {k : Nat} (b : bV g D) (m : mV g D h) (hk : k < g) : fM_toldOf (jz k) h = some (jz (D 3 k)) := by
  have b0 := b.1
  have m3 := m.2.2.2.1 k hk
  unfold fM_toldOf
  simp (disch := omega) only [jz_lit, jz_neg, jz_nat, jz_add, jz_sub, jz_mul, jz_lt, jz_le, jz_eq, jz_ix, jin_z, jz_div, jzw, jwz, jw_lit, jw_neg, jw_add, jw_sub, jw_mul, jw_lt, jw_le, jw_eq, jw_div, Int.toNat_natCast, if_pos, if_neg, if_true, if_false, Option.bind_some, Int.natCast_add, Int.natCast_mul, Int.cast_ofNat_Int, Int.reduceToNat, Int.reduceAdd, Int.reduceMul, Int.reduceSub, Int.reduceNeg, Nat.reduceAdd, Nat.reduceMul]
  rw [show ((32 : Int) + 4 * (k : Int)).toNat = 32 + 4 * k by omega, m3.1]
theorem sM_joyOf {k : Nat} (b : bV g D) (m : mV g D h) (hk : k < g) : fM_joyOf (jz k) h = some (jz (D 4 k)) := by
  have b0 := b.1
  have m3 := m.2.2.2.1 k hk
  unfold fM_joyOf
  simp (disch := omega) only [jz_lit, jz_neg, jz_nat, jz_add, jz_sub, jz_mul, jz_lt, jz_le, jz_eq, jz_ix, jin_z, jz_div, jzw, jwz, jw_lit, jw_neg, jw_add, jw_sub, jw_mul, jw_lt, jw_le, jw_eq, jw_div, Int.toNat_natCast, if_pos, if_neg, if_true, if_false, Option.bind_some, Int.natCast_add, Int.natCast_mul, Int.cast_ofNat_Int, Int.reduceToNat, Int.reduceAdd, Int.reduceMul, Int.reduceSub, Int.reduceNeg, Nat.reduceAdd, Nat.reduceMul]
  rw [show ((33 : Int) + 4 * (k : Int)).toNat = 33 + 4 * k by omega, m3.2.1]
theorem sM_sizeOf {k : Nat} (b : bV g D) (m : mV g D h) (hk : k < g) : fM_sizeOf (jz k) h = some (jz (D 5 k)) := by
  have b0 := b.1
  have m3 := m.2.2.2.1 k hk
  unfold fM_sizeOf
  simp (disch := omega) only [jz_lit, jz_neg, jz_nat, jz_add, jz_sub, jz_mul, jz_lt, jz_le, jz_eq, jz_ix, jin_z, jz_div, jzw, jwz, jw_lit, jw_neg, jw_add, jw_sub, jw_mul, jw_lt, jw_le, jw_eq, jw_div, Int.toNat_natCast, if_pos, if_neg, if_true, if_false, Option.bind_some, Int.natCast_add, Int.natCast_mul, Int.cast_ofNat_Int, Int.reduceToNat, Int.reduceAdd, Int.reduceMul, Int.reduceSub, Int.reduceNeg, Nat.reduceAdd, Nat.reduceMul]
  rw [show ((34 : Int) + 4 * (k : Int)).toNat = 34 + 4 * k by omega, m3.2.2.1]
theorem sM_tensOf {k : Nat} (b : bV g D) (m : mV g D h) (bs : bS g S) (ms : mS S h) (hk : k < g) : fM_tensOf (jz k) h = some (jz (eTens D S k)) := by
  have b0 := b.1
  have b1 := bs.2.2.2.2 k (by omega)
  have ht : D 0 10 = 1 := by have := b.2.2.1; omega
  have m4 := (m.2.2.1.2 ht).1
  unfold fM_tensOf eTens
  rw [sM_howOf ms (by omega)]
  by_cases e1 : S 1 k = 1
  · simp (disch := omega) only [jz_lit, jz_neg, jz_nat, jz_add, jz_sub, jz_mul, jz_lt, jz_le, jz_eq, jz_ix, jin_z, jz_div, jzw, jwz, jw_lit, jw_neg, jw_add, jw_sub, jw_mul, jw_lt, jw_le, jw_eq, jw_div, Int.toNat_natCast, if_pos, if_neg, if_true, if_false, Option.bind_some, Int.natCast_add, Int.natCast_mul, Int.cast_ofNat_Int, Int.reduceToNat, Int.reduceAdd, Int.reduceMul, Int.reduceSub, Int.reduceNeg, Nat.reduceAdd, Nat.reduceMul, e1, sM_toldOf b m hk]
  by_cases e2 : S 1 k = 2
  · simp (disch := omega) only [jz_lit, jz_neg, jz_nat, jz_add, jz_sub, jz_mul, jz_lt, jz_le, jz_eq, jz_ix, jin_z, jz_div, jzw, jwz, jw_lit, jw_neg, jw_add, jw_sub, jw_mul, jw_lt, jw_le, jw_eq, jw_div, Int.toNat_natCast, if_pos, if_neg, if_true, if_false, Option.bind_some, Int.natCast_add, Int.natCast_mul, Int.cast_ofNat_Int, Int.reduceToNat, Int.reduceAdd, Int.reduceMul, Int.reduceSub, Int.reduceNeg, Nat.reduceAdd, Nat.reduceMul, e2]
  by_cases e3 : S 1 k = 3
  · simp (disch := omega) only [jz_lit, jz_neg, jz_nat, jz_add, jz_sub, jz_mul, jz_lt, jz_le, jz_eq, jz_ix, jin_z, jz_div, jzw, jwz, jw_lit, jw_neg, jw_add, jw_sub, jw_mul, jw_lt, jw_le, jw_eq, jw_div, Int.toNat_natCast, if_pos, if_neg, if_true, if_false, Option.bind_some, Int.natCast_add, Int.natCast_mul, Int.cast_ofNat_Int, Int.reduceToNat, Int.reduceAdd, Int.reduceMul, Int.reduceSub, Int.reduceNeg, Nat.reduceAdd, Nat.reduceMul, e3]
  by_cases e4 : S 1 k = 4
  · simp (disch := omega) only [jz_lit, jz_neg, jz_nat, jz_add, jz_sub, jz_mul, jz_lt, jz_le, jz_eq, jz_ix, jin_z, jz_div, jzw, jwz, jw_lit, jw_neg, jw_add, jw_sub, jw_mul, jw_lt, jw_le, jw_eq, jw_div, Int.toNat_natCast, if_pos, if_neg, if_true, if_false, Option.bind_some, Int.natCast_add, Int.natCast_mul, Int.cast_ofNat_Int, Int.reduceToNat, Int.reduceAdd, Int.reduceMul, Int.reduceSub, Int.reduceNeg, Nat.reduceAdd, Nat.reduceMul, e4, m4]
  · simp (disch := omega) only [jz_lit, jz_neg, jz_nat, jz_add, jz_sub, jz_mul, jz_lt, jz_le, jz_eq, jz_ix, jin_z, jz_div, jzw, jwz, jw_lit, jw_neg, jw_add, jw_sub, jw_mul, jw_lt, jw_le, jw_eq, jw_div, Int.toNat_natCast, if_pos, if_neg, if_true, if_false, Option.bind_some, Int.natCast_add, Int.natCast_mul, Int.cast_ofNat_Int, Int.reduceToNat, Int.reduceAdd, Int.reduceMul, Int.reduceSub, Int.reduceNeg, Nat.reduceAdd, Nat.reduceMul, e1, e2, e3, e4]
theorem sPy_comesNow {k : Nat} (b : bV g D) (c : cV p g D h) (bs : bS g S) (cs : cS 11 S h) (hk : k < g) : fPy_comesNow p (jz k) h = some (jz (eTens D S k)) := by
  have b0 := b.1
  have b1 := bs.2.2.2.2 k (by omega)
  have ht : D 0 10 = 1 := by have := b.2.2.1; omega
  have c4 := (c.2.2.1.2 ht).1
  have c5 := c.2.2.2.1
  have cs := cS11 cs
  unfold fPy_comesNow eTens
  by_cases e1 : S 1 k = 1
  · simp (disch := omega) only [jz_lit, jz_neg, jz_nat, jz_add, jz_sub, jz_mul, jz_lt, jz_le, jz_eq, jz_ix, jin_z, jz_div, jzw, jwz, jw_lit, jw_neg, jw_add, jw_sub, jw_mul, jw_lt, jw_le, jw_eq, jw_div, Int.toNat_natCast, if_pos, if_neg, if_true, if_false, Option.bind_some, Int.natCast_add, Int.natCast_mul, Int.cast_ofNat_Int, Int.reduceToNat, Int.reduceAdd, Int.reduceMul, Int.reduceSub, Int.reduceNeg, Nat.reduceAdd, Nat.reduceMul, cs, e1, c5]
  by_cases e2 : S 1 k = 2
  · simp (disch := omega) only [jz_lit, jz_neg, jz_nat, jz_add, jz_sub, jz_mul, jz_lt, jz_le, jz_eq, jz_ix, jin_z, jz_div, jzw, jwz, jw_lit, jw_neg, jw_add, jw_sub, jw_mul, jw_lt, jw_le, jw_eq, jw_div, Int.toNat_natCast, if_pos, if_neg, if_true, if_false, Option.bind_some, Int.natCast_add, Int.natCast_mul, Int.cast_ofNat_Int, Int.reduceToNat, Int.reduceAdd, Int.reduceMul, Int.reduceSub, Int.reduceNeg, Nat.reduceAdd, Nat.reduceMul, cs, e2]
  by_cases e3 : S 1 k = 3
  · simp (disch := omega) only [jz_lit, jz_neg, jz_nat, jz_add, jz_sub, jz_mul, jz_lt, jz_le, jz_eq, jz_ix, jin_z, jz_div, jzw, jwz, jw_lit, jw_neg, jw_add, jw_sub, jw_mul, jw_lt, jw_le, jw_eq, jw_div, Int.toNat_natCast, if_pos, if_neg, if_true, if_false, Option.bind_some, Int.natCast_add, Int.natCast_mul, Int.cast_ofNat_Int, Int.reduceToNat, Int.reduceAdd, Int.reduceMul, Int.reduceSub, Int.reduceNeg, Nat.reduceAdd, Nat.reduceMul, cs, e3]
  by_cases e4 : S 1 k = 4
  · simp (disch := omega) only [jz_lit, jz_neg, jz_nat, jz_add, jz_sub, jz_mul, jz_lt, jz_le, jz_eq, jz_ix, jin_z, jz_div, jzw, jwz, jw_lit, jw_neg, jw_add, jw_sub, jw_mul, jw_lt, jw_le, jw_eq, jw_div, Int.toNat_natCast, if_pos, if_neg, if_true, if_false, Option.bind_some, Int.natCast_add, Int.natCast_mul, Int.cast_ofNat_Int, Int.reduceToNat, Int.reduceAdd, Int.reduceMul, Int.reduceSub, Int.reduceNeg, Nat.reduceAdd, Nat.reduceMul, cs, e4, c4]
  · simp (disch := omega) only [jz_lit, jz_neg, jz_nat, jz_add, jz_sub, jz_mul, jz_lt, jz_le, jz_eq, jz_ix, jin_z, jz_div, jzw, jwz, jw_lit, jw_neg, jw_add, jw_sub, jw_mul, jw_lt, jw_le, jw_eq, jw_div, Int.toNat_natCast, if_pos, if_neg, if_true, if_false, Option.bind_some, Int.natCast_add, Int.natCast_mul, Int.cast_ofNat_Int, Int.reduceToNat, Int.reduceAdd, Int.reduceMul, Int.reduceSub, Int.reduceNeg, Nat.reduceAdd, Nat.reduceMul, cs, e1, e2, e3, e4]
theorem eTens_b {k : Nat} (b : bV g D) (hk : k < g) : 0 ≤ eTens D S k ∧ eTens D S k ≤ 10 := by
  have b2 := b.2.1
  have b3 := b.2.2.2.1 k hk
  unfold eTens
  repeat' split
  all_goals omega
theorem sSd_isAsked {o k : Nat} (bs : bS g S) (cs : cS o S h) (hk : k < 8) : fSd_isAsked o (jz k) h = some (if S 1 k = 0 then jz 0 else jz 1) := by
  have b1 := bs.2.2.2.2 k (by omega)
  have cs := cs.2.2
  unfold fSd_isAsked
  by_cases e : S 1 k = 0
  · simp (disch := omega) only [jz_lit, jz_neg, jz_nat, jz_add, jz_sub, jz_mul, jz_lt, jz_le, jz_eq, jz_ix, jin_z, jz_div, jzw, jwz, jw_lit, jw_neg, jw_add, jw_sub, jw_mul, jw_lt, jw_le, jw_eq, jw_div, Int.toNat_natCast, if_pos, if_neg, if_true, if_false, Option.bind_some, Int.natCast_add, Int.natCast_mul, Int.cast_ofNat_Int, Int.reduceToNat, Int.reduceAdd, Int.reduceMul, Int.reduceSub, Int.reduceNeg, Nat.reduceAdd, Nat.reduceMul, cs, e]
  · simp (disch := omega) only [jz_lit, jz_neg, jz_nat, jz_add, jz_sub, jz_mul, jz_lt, jz_le, jz_eq, jz_ix, jin_z, jz_div, jzw, jwz, jw_lit, jw_neg, jw_add, jw_sub, jw_mul, jw_lt, jw_le, jw_eq, jw_div, Int.toNat_natCast, if_pos, if_neg, if_true, if_false, Option.bind_some, Int.natCast_add, Int.natCast_mul, Int.cast_ofNat_Int, Int.reduceToNat, Int.reduceAdd, Int.reduceMul, Int.reduceSub, Int.reduceNeg, Nat.reduceAdd, Nat.reduceMul, cs, e]
/-- those asked -/
def eAsk (S : jD) (n : Nat) : Nat := jset (fun k => decide (S 1 k ≠ 0)) n
theorem eAsk_lt {n : Nat} (h : n ≤ 8) : eAsk S n < 256 := Nat.lt_of_lt_of_le (jset_lt _ n) (by
  have := Nat.pow_le_pow_right (show 0 < 2 by omega) h
  omega)
theorem eAsk_8 (b : bV g D) (bs : bS g S) : eAsk S 8 = eAsk S g := jset_le _ b.1 (fun k h1 h2 => by
  have := bs.2.2.2.2 k h2
  simp; omega)
theorem sSd_ask (b : bV g D) (bs : bS g S) (cs : cS 11 S h) : fSd_askedSet 11 h = some (jz (eAsk S g)) := by
  rw [← eAsk_8 b bs]
  exact sSd_asked (D := fun k => S 1 k) (fun k hk => (cs.2.2 k hk).1) (fun k hk => by have := bs.2.2.2.2 k hk; omega)
theorem sM_ask (b : bV g D) (m : mV g D h) (bs : bS g S) (ms : mS S h) : fM_askedSet h = some (jz (eAsk S g)) := by
  have b0 := b.1
  unfold fM_askedSet
  have hl : jlim (fM_askedSet_l4 h) (0, 0) = some (jz (eAsk S g)) := by
    refine jlim_go (fun k => (jz (eAsk S k), jz k)) g rfl (fun i hi => ?_) ?_
    · have e : eAsk S (i + 1) = if S 1 i ≠ 0 then eAsk S i ||| 2 ^ i else eAsk S i := by simp [eAsk, jset]
      simp only [fM_askedSet_l4, fM_askedSet_l4_b, fM_askedSet_l4_j26, e, sM_guestMany m]
      by_cases hz : S 1 i = 0
      · simp (disch := omega) only [jz_lit, jz_neg, jz_nat, jz_add, jz_sub, jz_mul, jz_lt, jz_le, jz_eq, jz_ix, jin_z, jz_div, jzw, jwz, jw_lit, jw_neg, jw_add, jw_sub, jw_mul, jw_lt, jw_le, jw_eq, jw_div, Int.toNat_natCast, if_pos, if_neg, if_true, if_false, Option.bind_some, Int.natCast_add, Int.natCast_mul, Int.cast_ofNat_Int, Int.reduceToNat, Int.reduceAdd, Int.reduceMul, Int.reduceSub, Int.reduceNeg, Nat.reduceAdd, Nat.reduceMul, sM_isAsked ms bs (show i < 8 by omega), hz, ne_eq, not_true_eq_false]
      · simp (disch := omega) only [jz_lit, jz_neg, jz_nat, jz_add, jz_sub, jz_mul, jz_lt, jz_le, jz_eq, jz_ix, jin_z, jz_div, jzw, jwz, jw_lit, jw_neg, jw_add, jw_sub, jw_mul, jw_lt, jw_le, jw_eq, jw_div, Int.toNat_natCast, if_pos, if_neg, if_true, if_false, Option.bind_some, Int.natCast_add, Int.natCast_mul, Int.cast_ofNat_Int, Int.reduceToNat, Int.reduceAdd, Int.reduceMul, Int.reduceSub, Int.reduceNeg, Nat.reduceAdd, Nat.reduceMul, sM_isAsked ms bs (show i < 8 by omega), hz, ne_eq, not_false_eq_true, jbit_shl (show i < 20 by omega), jbit_or]
    · simp only [fM_askedSet_l4, fM_askedSet_l4_b, sM_guestMany m]
      simp (disch := omega) only [jz_lit, jz_neg, jz_nat, jz_add, jz_sub, jz_mul, jz_lt, jz_le, jz_eq, jz_ix, jin_z, jz_div, jzw, jwz, jw_lit, jw_neg, jw_add, jw_sub, jw_mul, jw_lt, jw_le, jw_eq, jw_div, Int.toNat_natCast, if_pos, if_neg, if_true, if_false, Option.bind_some, Int.natCast_add, Int.natCast_mul, Int.cast_ofNat_Int, Int.reduceToNat, Int.reduceAdd, Int.reduceMul, Int.reduceSub, Int.reduceNeg, Nat.reduceAdd, Nat.reduceMul]
  rw [hl]
  rfl
/-- how many are so -/
def eCnt (S : jD) (w : Int) (n : Nat) : Nat := ((List.range n).filter (fun k => decide (S 1 k = w))).length
theorem eCnt_s {w : Int} {n : Nat} : eCnt S w (n + 1) = eCnt S w n + (if S 1 n = w then 1 else 0) := by
  unfold eCnt
  rw [List.range_succ, List.filter_append, List.length_append]
  by_cases e : S 1 n = w <;> simp [e]
theorem eCnt_8 {w : Int} (b : bV g D) (bs : bS g S) (hw : w ≠ 0) : eCnt S w 8 = eCnt S w g := by
  have b0 := b.1
  have : ∀ n, g ≤ n → n ≤ 8 → eCnt S w n = eCnt S w g := by
    intro n
    induction n with
    | zero => intro h1 _; rw [show g = 0 by omega]
    | succ n ih =>
      intro h1 h2
      by_cases e : g = n + 1
      · rw [e]
      · rw [eCnt_s, ih (by omega) (by omega)]
        have := bs.2.2.2.2 n (by omega)
        rw [if_neg (by omega)]
        rfl
  exact this 8 b0 (by omega)
theorem eCnt_le {w : Int} {n : Nat} : eCnt S w n ≤ n := by
  unfold eCnt
  exact Nat.le_trans (List.length_filter_le _ _) (by simp)
theorem sSd_cnt {w : Int} (hw : 1 ≤ w ∧ w ≤ 4) (b : bV g D) (bs : bS g S) (cs : cS 11 S h) : fSd_countOf 11 (jz w) h = some (jz (eCnt S w g)) := by
  rw [← eCnt_8 b bs (by omega)]
  exact sSd_count (D := fun k => S 1 k) (by omega) (fun k hk => (cs.2.2 k hk).1) (fun k hk => by have := bs.2.2.2.2 k hk; omega)
theorem sM_howMany {w : Int} (hw : 1 ≤ w ∧ w ≤ 4) (b : bV g D) (m : mV g D h) (bs : bS g S) (ms : mS S h) : fM_howMany (jz w) h = some (jz (eCnt S w g)) := by
  have b0 := b.1
  unfold fM_howMany
  have hl : jlim (fM_howMany_l4 (jz w) h) (0, 0) = some (jz (eCnt S w g)) := by
    refine jlim_go (fun k => (jz (eCnt S w k), jz k)) g rfl (fun i hi => ?_) ?_
    · have b1 := bs.2.2.2.2 i (by omega)
      simp only [fM_howMany_l4, fM_howMany_l4_b, fM_howMany_l4_j24, eCnt_s, sM_guestMany m]
      by_cases hz : S 1 i = w
      · simp (disch := omega) only [jz_lit, jz_neg, jz_nat, jz_add, jz_sub, jz_mul, jz_lt, jz_le, jz_eq, jz_ix, jin_z, jz_div, jzw, jwz, jw_lit, jw_neg, jw_add, jw_sub, jw_mul, jw_lt, jw_le, jw_eq, jw_div, Int.toNat_natCast, if_pos, if_neg, if_true, if_false, Option.bind_some, Int.natCast_add, Int.natCast_mul, Int.cast_ofNat_Int, Int.reduceToNat, Int.reduceAdd, Int.reduceMul, Int.reduceSub, Int.reduceNeg, Nat.reduceAdd, Nat.reduceMul, sM_howOf ms (show i < 8 by omega), hz]
      · simp (disch := omega) only [jz_lit, jz_neg, jz_nat, jz_add, jz_sub, jz_mul, jz_lt, jz_le, jz_eq, jz_ix, jin_z, jz_div, jzw, jwz, jw_lit, jw_neg, jw_add, jw_sub, jw_mul, jw_lt, jw_le, jw_eq, jw_div, Int.toNat_natCast, if_pos, if_neg, if_true, if_false, Option.bind_some, Int.natCast_add, Int.natCast_mul, Int.cast_ofNat_Int, Int.reduceToNat, Int.reduceAdd, Int.reduceMul, Int.reduceSub, Int.reduceNeg, Nat.reduceAdd, Nat.reduceMul, sM_howOf ms (show i < 8 by omega), hz]
        simp
    · simp only [fM_howMany_l4, fM_howMany_l4_b, sM_guestMany m]
      simp (disch := omega) only [jz_lit, jz_neg, jz_nat, jz_add, jz_sub, jz_mul, jz_lt, jz_le, jz_eq, jz_ix, jin_z, jz_div, jzw, jwz, jw_lit, jw_neg, jw_add, jw_sub, jw_mul, jw_lt, jw_le, jw_eq, jw_div, Int.toNat_natCast, if_pos, if_neg, if_true, if_false, Option.bind_some, Int.natCast_add, Int.natCast_mul, Int.cast_ofNat_Int, Int.reduceToNat, Int.reduceAdd, Int.reduceMul, Int.reduceSub, Int.reduceNeg, Nat.reduceAdd, Nat.reduceMul]
  rw [hl]
  rfl
/-- that can come at most -/
def eMost (D S : jD) (k : Nat) : Int := if S 1 k = 0 then 0 else if S 1 k = 3 then 0 else D 5 k
theorem sPy_mostHeads (b : bV g D) (c : cV p g D h) (bs : bS g S) (cs : cS 11 S h) : fPy_mostHeads p h = some (jz (eSum (eMost D S) g)) := by
  have b0 := b.1
  have c0 := c.1
  have c5 := c.2.2.2.1
  have cs1 := cS11 cs
  unfold fPy_mostHeads
  have hl : jlim (fPy_mostHeads_l4 p h) (0, 0) = some (jz (eSum (eMost D S) g)) := by
    refine jlim_go (fun k => (jz (eSum (eMost D S) k), jz k)) g rfl (fun i hi => ?_) ?_
    · have b1 := bs.2.2.2.2 i (by omega)
      simp only [fPy_mostHeads_l4, fPy_mostHeads_l4_b, fPy_mostHeads_l4_j57, c0, eSum, eMost, sSd_isAsked bs cs (show i < 8 by omega)]
      by_cases hz : S 1 i = 0
      · simp (disch := omega) only [jz_lit, jz_neg, jz_nat, jz_add, jz_sub, jz_mul, jz_lt, jz_le, jz_eq, jz_ix, jin_z, jz_div, jzw, jwz, jw_lit, jw_neg, jw_add, jw_sub, jw_mul, jw_lt, jw_le, jw_eq, jw_div, Int.toNat_natCast, if_pos, if_neg, if_true, if_false, Option.bind_some, Int.natCast_add, Int.natCast_mul, Int.cast_ofNat_Int, Int.reduceToNat, Int.reduceAdd, Int.reduceMul, Int.reduceSub, Int.reduceNeg, Nat.reduceAdd, Nat.reduceMul, hz]
        simp
      by_cases hy : S 1 i = 3
      · simp (disch := omega) only [jz_lit, jz_neg, jz_nat, jz_add, jz_sub, jz_mul, jz_lt, jz_le, jz_eq, jz_ix, jin_z, jz_div, jzw, jwz, jw_lit, jw_neg, jw_add, jw_sub, jw_mul, jw_lt, jw_le, jw_eq, jw_div, Int.toNat_natCast, if_pos, if_neg, if_true, if_false, Option.bind_some, Int.natCast_add, Int.natCast_mul, Int.cast_ofNat_Int, Int.reduceToNat, Int.reduceAdd, Int.reduceMul, Int.reduceSub, Int.reduceNeg, Nat.reduceAdd, Nat.reduceMul, hz, hy, cs1]
        simp
      · simp (disch := omega) only [jz_lit, jz_neg, jz_nat, jz_add, jz_sub, jz_mul, jz_lt, jz_le, jz_eq, jz_ix, jin_z, jz_div, jzw, jwz, jw_lit, jw_neg, jw_add, jw_sub, jw_mul, jw_lt, jw_le, jw_eq, jw_div, Int.toNat_natCast, if_pos, if_neg, if_true, if_false, Option.bind_some, Int.natCast_add, Int.natCast_mul, Int.cast_ofNat_Int, Int.reduceToNat, Int.reduceAdd, Int.reduceMul, Int.reduceSub, Int.reduceNeg, Nat.reduceAdd, Nat.reduceMul, hz, hy, cs1, c5]
    · simp only [fPy_mostHeads_l4, fPy_mostHeads_l4_b, c0]
      simp (disch := omega) only [jz_lit, jz_neg, jz_nat, jz_add, jz_sub, jz_mul, jz_lt, jz_le, jz_eq, jz_ix, jin_z, jz_div, jzw, jwz, jw_lit, jw_neg, jw_add, jw_sub, jw_mul, jw_lt, jw_le, jw_eq, jw_div, Int.toNat_natCast, if_pos, if_neg, if_true, if_false, Option.bind_some, Int.natCast_add, Int.natCast_mul, Int.cast_ofNat_Int, Int.reduceToNat, Int.reduceAdd, Int.reduceMul, Int.reduceSub, Int.reduceNeg, Nat.reduceAdd, Nat.reduceMul]
  rw [hl]
  rfl
theorem sM_headsMost (b : bV g D) (m : mV g D h) (bs : bS g S) (ms : mS S h) : fM_headsMost h = some (jz (eSum (eMost D S) g)) := by
  have b0 := b.1
  unfold fM_headsMost
  have hl : jlim (fM_headsMost_l4 h) (0, 0) = some (jz (eSum (eMost D S) g)) := by
    refine jlim_go (fun k => (jz (eSum (eMost D S) k), jz k)) g rfl (fun i hi => ?_) ?_
    · have b1 := bs.2.2.2.2 i (by omega)
      simp only [fM_headsMost_l4, fM_headsMost_l4_b, fM_headsMost_l4_j37, sM_guestMany m, eSum, eMost]
      by_cases hz : S 1 i = 0
      · simp (disch := omega) only [jz_lit, jz_neg, jz_nat, jz_add, jz_sub, jz_mul, jz_lt, jz_le, jz_eq, jz_ix, jin_z, jz_div, jzw, jwz, jw_lit, jw_neg, jw_add, jw_sub, jw_mul, jw_lt, jw_le, jw_eq, jw_div, Int.toNat_natCast, if_pos, if_neg, if_true, if_false, Option.bind_some, Int.natCast_add, Int.natCast_mul, Int.cast_ofNat_Int, Int.reduceToNat, Int.reduceAdd, Int.reduceMul, Int.reduceSub, Int.reduceNeg, Nat.reduceAdd, Nat.reduceMul, hz, sM_isAsked ms bs (show i < 8 by omega)]
        simp
      by_cases hy : S 1 i = 3
      · simp (disch := omega) only [jz_lit, jz_neg, jz_nat, jz_add, jz_sub, jz_mul, jz_lt, jz_le, jz_eq, jz_ix, jin_z, jz_div, jzw, jwz, jw_lit, jw_neg, jw_add, jw_sub, jw_mul, jw_lt, jw_le, jw_eq, jw_div, Int.toNat_natCast, if_pos, if_neg, if_true, if_false, Option.bind_some, Int.natCast_add, Int.natCast_mul, Int.cast_ofNat_Int, Int.reduceToNat, Int.reduceAdd, Int.reduceMul, Int.reduceSub, Int.reduceNeg, Nat.reduceAdd, Nat.reduceMul, hz, hy, sM_isAsked ms bs (show i < 8 by omega), sM_howOf ms (show i < 8 by omega)]
        simp
      · simp (disch := omega) only [jz_lit, jz_neg, jz_nat, jz_add, jz_sub, jz_mul, jz_lt, jz_le, jz_eq, jz_ix, jin_z, jz_div, jzw, jwz, jw_lit, jw_neg, jw_add, jw_sub, jw_mul, jw_lt, jw_le, jw_eq, jw_div, Int.toNat_natCast, if_pos, if_neg, if_true, if_false, Option.bind_some, Int.natCast_add, Int.natCast_mul, Int.cast_ofNat_Int, Int.reduceToNat, Int.reduceAdd, Int.reduceMul, Int.reduceSub, Int.reduceNeg, Nat.reduceAdd, Nat.reduceMul, hz, hy, sM_isAsked ms bs (show i < 8 by omega), sM_howOf ms (show i < 8 by omega), sM_sizeOf b m hi]
    · simp only [fM_headsMost_l4, fM_headsMost_l4_b, sM_guestMany m]
      simp (disch := omega) only [jz_lit, jz_neg, jz_nat, jz_add, jz_sub, jz_mul, jz_lt, jz_le, jz_eq, jz_ix, jin_z, jz_div, jzw, jwz, jw_lit, jw_neg, jw_add, jw_sub, jw_mul, jw_lt, jw_le, jw_eq, jw_div, Int.toNat_natCast, if_pos, if_neg, if_true, if_false, Option.bind_some, Int.natCast_add, Int.natCast_mul, Int.cast_ofNat_Int, Int.reduceToNat, Int.reduceAdd, Int.reduceMul, Int.reduceSub, Int.reduceNeg, Nat.reduceAdd, Nat.reduceMul]
  rw [hl]
  rfl
theorem sA_isGuest {a : Int} (b : bV g D) (c : cV p g D h) (h1 : -2147483648 ≤ a) (h2 : a < 2147483648) : fA_isGuest p (jz a) h = if 0 ≤ a ∧ a < g then jz 1 else jz 0 := by
  have b0 := b.1
  have c0 := c.1
  unfold fA_isGuest
  by_cases g1 : a < 0
  · simp (disch := omega) only [jz_lit, jz_neg, jz_nat, jz_add, jz_sub, jz_mul, jz_lt, jz_le, jz_eq, jz_ix, jin_z, jz_div, jzw, jwz, jw_lit, jw_neg, jw_add, jw_sub, jw_mul, jw_lt, jw_le, jw_eq, jw_div, Int.toNat_natCast, if_pos, if_neg, if_true, if_false, Option.bind_some, Int.natCast_add, Int.natCast_mul, Int.cast_ofNat_Int, Int.reduceToNat, Int.reduceAdd, Int.reduceMul, Int.reduceSub, Int.reduceNeg, Nat.reduceAdd, Nat.reduceMul, c0]
  by_cases g2 : a < 8
  · by_cases g3 : a < g
    · simp (disch := omega) only [jz_lit, jz_neg, jz_nat, jz_add, jz_sub, jz_mul, jz_lt, jz_le, jz_eq, jz_ix, jin_z, jz_div, jzw, jwz, jw_lit, jw_neg, jw_add, jw_sub, jw_mul, jw_lt, jw_le, jw_eq, jw_div, Int.toNat_natCast, if_pos, if_neg, if_true, if_false, Option.bind_some, Int.natCast_add, Int.natCast_mul, Int.cast_ofNat_Int, Int.reduceToNat, Int.reduceAdd, Int.reduceMul, Int.reduceSub, Int.reduceNeg, Nat.reduceAdd, Nat.reduceMul, c0]
    · simp (disch := omega) only [jz_lit, jz_neg, jz_nat, jz_add, jz_sub, jz_mul, jz_lt, jz_le, jz_eq, jz_ix, jin_z, jz_div, jzw, jwz, jw_lit, jw_neg, jw_add, jw_sub, jw_mul, jw_lt, jw_le, jw_eq, jw_div, Int.toNat_natCast, if_pos, if_neg, if_true, if_false, Option.bind_some, Int.natCast_add, Int.natCast_mul, Int.cast_ofNat_Int, Int.reduceToNat, Int.reduceAdd, Int.reduceMul, Int.reduceSub, Int.reduceNeg, Nat.reduceAdd, Nat.reduceMul, c0]
  · simp (disch := omega) only [jz_lit, jz_neg, jz_nat, jz_add, jz_sub, jz_mul, jz_lt, jz_le, jz_eq, jz_ix, jin_z, jz_div, jzw, jwz, jw_lit, jw_neg, jw_add, jw_sub, jw_mul, jw_lt, jw_le, jw_eq, jw_div, Int.toNat_natCast, if_pos, if_neg, if_true, if_false, Option.bind_some, Int.natCast_add, Int.natCast_mul, Int.cast_ofNat_Int, Int.reduceToNat, Int.reduceAdd, Int.reduceMul, Int.reduceSub, Int.reduceNeg, Nat.reduceAdd, Nat.reduceMul, c0]
theorem sM_isGuest {a : Int} (b : bV g D) (m : mV g D h) (h1 : -2147483648 ≤ a) (h2 : a < 2147483648) : fM_isGuest (jz a) h = some (if 0 ≤ a ∧ a < g then jz 1 else jz 0) := by
  have b0 := b.1
  unfold fM_isGuest
  rw [sM_guestMany m]
  by_cases g1 : 0 ≤ a ∧ a < g
  · simp (disch := omega) only [jz_lit, jz_neg, jz_nat, jz_add, jz_sub, jz_mul, jz_lt, jz_le, jz_eq, jz_ix, jin_z, jz_div, jzw, jwz, jw_lit, jw_neg, jw_add, jw_sub, jw_mul, jw_lt, jw_le, jw_eq, jw_div, Int.toNat_natCast, if_pos, if_neg, if_true, if_false, Option.bind_some, Int.natCast_add, Int.natCast_mul, Int.cast_ofNat_Int, Int.reduceToNat, Int.reduceAdd, Int.reduceMul, Int.reduceSub, Int.reduceNeg, Nat.reduceAdd, Nat.reduceMul, sM_isIn]
    simp
  · simp (disch := omega) only [jz_lit, jz_neg, jz_nat, jz_add, jz_sub, jz_mul, jz_lt, jz_le, jz_eq, jz_ix, jin_z, jz_div, jzw, jwz, jw_lit, jw_neg, jw_add, jw_sub, jw_mul, jw_lt, jw_le, jw_eq, jw_div, Int.toNat_natCast, if_pos, if_neg, if_true, if_false, Option.bind_some, Int.natCast_add, Int.natCast_mul, Int.cast_ofNat_Int, Int.reduceToNat, Int.reduceAdd, Int.reduceMul, Int.reduceSub, Int.reduceNeg, Nat.reduceAdd, Nat.reduceMul, sM_isIn]
    simp
end EB
theorem call_4 : jcal_4 jInv := by
  intro p d q h a0 V
  have V0 := V
  obtain ⟨hpd, hq, v1, v2, v3, v4, v5, v6, g, D, S, L, ⟨b, c, m, w1, w2, w3, w4⟩, ⟨bs, cs, ms⟩, ⟨cn, w, p1, p2, p3, p4, p5, p6⟩⟩ := V
  have hb_a := jz_bd a0
  generalize ha_a : a0.toInt = a at hb_a
  obtain rfl : a0 = jz a := by rw [← ha_a]; exact jz_self a0
  clear ha_a
  have b0 := b.1
  have hA : fSd_askedSet 11 h = some (jz (eAsk S g)) := sSd_ask b bs cs
  have hB : fM_askedSet h = some (jz (eAsk S g)) := sM_ask b m bs ms
  have hlt : eAsk S g < 256 := eAsk_lt b0
  unfold fA_has fM_has fM_has_j94 fPa_size
  by_cases e0 : a = 0
  · subst e0
    refine ⟨jz g, ?_, jz g, ?_, rfl, V0⟩
    · simp (disch := omega) only [jz_lit, jz_neg, jz_nat, jz_add, jz_sub, jz_mul, jz_lt, jz_le, jz_eq, jz_ix, jin_z, jz_div, jzw, jwz, jw_lit, jw_neg, jw_add, jw_sub, jw_mul, jw_lt, jw_le, jw_eq, jw_div, Int.toNat_natCast, if_pos, if_neg, if_true, if_false, Option.bind_some, Int.natCast_add, Int.natCast_mul, Int.cast_ofNat_Int, Int.reduceToNat, Int.reduceAdd, Int.reduceMul, Int.reduceSub, Int.reduceNeg, Nat.reduceAdd, Nat.reduceMul, c.1]
    · simp (disch := omega) only [jz_lit, jz_neg, jz_nat, jz_add, jz_sub, jz_mul, jz_lt, jz_le, jz_eq, jz_ix, jin_z, jz_div, jzw, jwz, jw_lit, jw_neg, jw_add, jw_sub, jw_mul, jw_lt, jw_le, jw_eq, jw_div, Int.toNat_natCast, if_pos, if_neg, if_true, if_false, Option.bind_some, Int.natCast_add, Int.natCast_mul, Int.cast_ofNat_Int, Int.reduceToNat, Int.reduceAdd, Int.reduceMul, Int.reduceSub, Int.reduceNeg, Nat.reduceAdd, Nat.reduceMul, sM_guestMany m]
  by_cases e1 : a = 1
  · subst e1
    refine ⟨h.1 p 1, ?_, h.1 138 4, ?_, w3, V0⟩
    · simp (disch := omega) only [jz_lit, jz_neg, jz_nat, jz_add, jz_sub, jz_mul, jz_lt, jz_le, jz_eq, jz_ix, jin_z, jz_div, jzw, jwz, jw_lit, jw_neg, jw_add, jw_sub, jw_mul, jw_lt, jw_le, jw_eq, jw_div, Int.toNat_natCast, if_pos, if_neg, if_true, if_false, Option.bind_some, Int.natCast_add, Int.natCast_mul, Int.cast_ofNat_Int, Int.reduceToNat, Int.reduceAdd, Int.reduceMul, Int.reduceSub, Int.reduceNeg, Nat.reduceAdd, Nat.reduceMul]
    · simp (disch := omega) only [jz_lit, jz_neg, jz_nat, jz_add, jz_sub, jz_mul, jz_lt, jz_le, jz_eq, jz_ix, jin_z, jz_div, jzw, jwz, jw_lit, jw_neg, jw_add, jw_sub, jw_mul, jw_lt, jw_le, jw_eq, jw_div, Int.toNat_natCast, if_pos, if_neg, if_true, if_false, Option.bind_some, Int.natCast_add, Int.natCast_mul, Int.cast_ofNat_Int, Int.reduceToNat, Int.reduceAdd, Int.reduceMul, Int.reduceSub, Int.reduceNeg, Nat.reduceAdd, Nat.reduceMul]
  by_cases e2 : a = 2
  · subst e2
    refine ⟨jz (D 0 3), ?_, jz (D 0 3), ?_, rfl, V0⟩
    · simp (disch := omega) only [jz_lit, jz_neg, jz_nat, jz_add, jz_sub, jz_mul, jz_lt, jz_le, jz_eq, jz_ix, jin_z, jz_div, jzw, jwz, jw_lit, jw_neg, jw_add, jw_sub, jw_mul, jw_lt, jw_le, jw_eq, jw_div, Int.toNat_natCast, if_pos, if_neg, if_true, if_false, Option.bind_some, Int.natCast_add, Int.natCast_mul, Int.cast_ofNat_Int, Int.reduceToNat, Int.reduceAdd, Int.reduceMul, Int.reduceSub, Int.reduceNeg, Nat.reduceAdd, Nat.reduceMul, c.2.1.1]
    · simp (disch := omega) only [jz_lit, jz_neg, jz_nat, jz_add, jz_sub, jz_mul, jz_lt, jz_le, jz_eq, jz_ix, jin_z, jz_div, jzw, jwz, jw_lit, jw_neg, jw_add, jw_sub, jw_mul, jw_lt, jw_le, jw_eq, jw_div, Int.toNat_natCast, if_pos, if_neg, if_true, if_false, Option.bind_some, Int.natCast_add, Int.natCast_mul, Int.cast_ofNat_Int, Int.reduceToNat, Int.reduceAdd, Int.reduceMul, Int.reduceSub, Int.reduceNeg, Nat.reduceAdd, Nat.reduceMul, m.2.1.1]
  by_cases e3 : a = 3
  · subst e3
    refine ⟨jz (S 0 1), ?_, jz (S 0 1), ?_, rfl, V0⟩
    · simp (disch := omega) only [jz_lit, jz_neg, jz_nat, jz_add, jz_sub, jz_mul, jz_lt, jz_le, jz_eq, jz_ix, jin_z, jz_div, jzw, jwz, jw_lit, jw_neg, jw_add, jw_sub, jw_mul, jw_lt, jw_le, jw_eq, jw_div, Int.toNat_natCast, if_pos, if_neg, if_true, if_false, Option.bind_some, Int.natCast_add, Int.natCast_mul, Int.cast_ofNat_Int, Int.reduceToNat, Int.reduceAdd, Int.reduceMul, Int.reduceSub, Int.reduceNeg, Nat.reduceAdd, Nat.reduceMul, cs.1]
    · simp (disch := omega) only [jz_lit, jz_neg, jz_nat, jz_add, jz_sub, jz_mul, jz_lt, jz_le, jz_eq, jz_ix, jin_z, jz_div, jzw, jwz, jw_lit, jw_neg, jw_add, jw_sub, jw_mul, jw_lt, jw_le, jw_eq, jw_div, Int.toNat_natCast, if_pos, if_neg, if_true, if_false, Option.bind_some, Int.natCast_add, Int.natCast_mul, Int.cast_ofNat_Int, Int.reduceToNat, Int.reduceAdd, Int.reduceMul, Int.reduceSub, Int.reduceNeg, Nat.reduceAdd, Nat.reduceMul, ms.1]
  by_cases e4 : a = 4
  · subst e4
    refine ⟨jz (jpc (eAsk S g)), ?_, jz (jpc (eAsk S g)), ?_, rfl, V0⟩
    · simp (disch := omega) only [jz_lit, jz_neg, jz_nat, jz_add, jz_sub, jz_mul, jz_lt, jz_le, jz_eq, jz_ix, jin_z, jz_div, jzw, jwz, jw_lit, jw_neg, jw_add, jw_sub, jw_mul, jw_lt, jw_le, jw_eq, jw_div, Int.toNat_natCast, if_pos, if_neg, if_true, if_false, Option.bind_some, Int.natCast_add, Int.natCast_mul, Int.cast_ofNat_Int, Int.reduceToNat, Int.reduceAdd, Int.reduceMul, Int.reduceSub, Int.reduceNeg, Nat.reduceAdd, Nat.reduceMul, hA, sIn_bitCount hlt]
    · simp (disch := omega) only [jz_lit, jz_neg, jz_nat, jz_add, jz_sub, jz_mul, jz_lt, jz_le, jz_eq, jz_ix, jin_z, jz_div, jzw, jwz, jw_lit, jw_neg, jw_add, jw_sub, jw_mul, jw_lt, jw_le, jw_eq, jw_div, Int.toNat_natCast, if_pos, if_neg, if_true, if_false, Option.bind_some, Int.natCast_add, Int.natCast_mul, Int.cast_ofNat_Int, Int.reduceToNat, Int.reduceAdd, Int.reduceMul, Int.reduceSub, Int.reduceNeg, Nat.reduceAdd, Nat.reduceMul, hB, sM_bits hlt]
  by_cases e5 : a = 5
  · subst e5
    refine ⟨jz (eCnt S 1 g), ?_, jz (eCnt S 1 g), ?_, rfl, V0⟩
    · simp (disch := omega) only [jz_lit, jz_neg, jz_nat, jz_add, jz_sub, jz_mul, jz_lt, jz_le, jz_eq, jz_ix, jin_z, jz_div, jzw, jwz, jw_lit, jw_neg, jw_add, jw_sub, jw_mul, jw_lt, jw_le, jw_eq, jw_div, Int.toNat_natCast, if_pos, if_neg, if_true, if_false, Option.bind_some, Int.natCast_add, Int.natCast_mul, Int.cast_ofNat_Int, Int.reduceToNat, Int.reduceAdd, Int.reduceMul, Int.reduceSub, Int.reduceNeg, Nat.reduceAdd, Nat.reduceMul, sSd_cnt (w := 1) (by omega) b bs cs]
    · simp (disch := omega) only [jz_lit, jz_neg, jz_nat, jz_add, jz_sub, jz_mul, jz_lt, jz_le, jz_eq, jz_ix, jin_z, jz_div, jzw, jwz, jw_lit, jw_neg, jw_add, jw_sub, jw_mul, jw_lt, jw_le, jw_eq, jw_div, Int.toNat_natCast, if_pos, if_neg, if_true, if_false, Option.bind_some, Int.natCast_add, Int.natCast_mul, Int.cast_ofNat_Int, Int.reduceToNat, Int.reduceAdd, Int.reduceMul, Int.reduceSub, Int.reduceNeg, Nat.reduceAdd, Nat.reduceMul, sM_howMany (w := 1) (by omega) b m bs ms]
  by_cases e6 : a = 6
  · subst e6
    refine ⟨jz (eCnt S 2 g), ?_, jz (eCnt S 2 g), ?_, rfl, V0⟩
    · simp (disch := omega) only [jz_lit, jz_neg, jz_nat, jz_add, jz_sub, jz_mul, jz_lt, jz_le, jz_eq, jz_ix, jin_z, jz_div, jzw, jwz, jw_lit, jw_neg, jw_add, jw_sub, jw_mul, jw_lt, jw_le, jw_eq, jw_div, Int.toNat_natCast, if_pos, if_neg, if_true, if_false, Option.bind_some, Int.natCast_add, Int.natCast_mul, Int.cast_ofNat_Int, Int.reduceToNat, Int.reduceAdd, Int.reduceMul, Int.reduceSub, Int.reduceNeg, Nat.reduceAdd, Nat.reduceMul, sSd_cnt (w := 2) (by omega) b bs cs]
    · simp (disch := omega) only [jz_lit, jz_neg, jz_nat, jz_add, jz_sub, jz_mul, jz_lt, jz_le, jz_eq, jz_ix, jin_z, jz_div, jzw, jwz, jw_lit, jw_neg, jw_add, jw_sub, jw_mul, jw_lt, jw_le, jw_eq, jw_div, Int.toNat_natCast, if_pos, if_neg, if_true, if_false, Option.bind_some, Int.natCast_add, Int.natCast_mul, Int.cast_ofNat_Int, Int.reduceToNat, Int.reduceAdd, Int.reduceMul, Int.reduceSub, Int.reduceNeg, Nat.reduceAdd, Nat.reduceMul, sM_howMany (w := 2) (by omega) b m bs ms]
  by_cases e7 : a = 7
  · subst e7
    refine ⟨jz (eCnt S 3 g), ?_, jz (eCnt S 3 g), ?_, rfl, V0⟩
    · simp (disch := omega) only [jz_lit, jz_neg, jz_nat, jz_add, jz_sub, jz_mul, jz_lt, jz_le, jz_eq, jz_ix, jin_z, jz_div, jzw, jwz, jw_lit, jw_neg, jw_add, jw_sub, jw_mul, jw_lt, jw_le, jw_eq, jw_div, Int.toNat_natCast, if_pos, if_neg, if_true, if_false, Option.bind_some, Int.natCast_add, Int.natCast_mul, Int.cast_ofNat_Int, Int.reduceToNat, Int.reduceAdd, Int.reduceMul, Int.reduceSub, Int.reduceNeg, Nat.reduceAdd, Nat.reduceMul, sSd_cnt (w := 3) (by omega) b bs cs]
    · simp (disch := omega) only [jz_lit, jz_neg, jz_nat, jz_add, jz_sub, jz_mul, jz_lt, jz_le, jz_eq, jz_ix, jin_z, jz_div, jzw, jwz, jw_lit, jw_neg, jw_add, jw_sub, jw_mul, jw_lt, jw_le, jw_eq, jw_div, Int.toNat_natCast, if_pos, if_neg, if_true, if_false, Option.bind_some, Int.natCast_add, Int.natCast_mul, Int.cast_ofNat_Int, Int.reduceToNat, Int.reduceAdd, Int.reduceMul, Int.reduceSub, Int.reduceNeg, Nat.reduceAdd, Nat.reduceMul, sM_howMany (w := 3) (by omega) b m bs ms]
  by_cases e8 : a = 8
  · subst e8
    refine ⟨jz (eCnt S 4 g), ?_, jz (eCnt S 4 g), ?_, rfl, V0⟩
    · simp (disch := omega) only [jz_lit, jz_neg, jz_nat, jz_add, jz_sub, jz_mul, jz_lt, jz_le, jz_eq, jz_ix, jin_z, jz_div, jzw, jwz, jw_lit, jw_neg, jw_add, jw_sub, jw_mul, jw_lt, jw_le, jw_eq, jw_div, Int.toNat_natCast, if_pos, if_neg, if_true, if_false, Option.bind_some, Int.natCast_add, Int.natCast_mul, Int.cast_ofNat_Int, Int.reduceToNat, Int.reduceAdd, Int.reduceMul, Int.reduceSub, Int.reduceNeg, Nat.reduceAdd, Nat.reduceMul, sSd_cnt (w := 4) (by omega) b bs cs]
    · simp (disch := omega) only [jz_lit, jz_neg, jz_nat, jz_add, jz_sub, jz_mul, jz_lt, jz_le, jz_eq, jz_ix, jin_z, jz_div, jzw, jwz, jw_lit, jw_neg, jw_add, jw_sub, jw_mul, jw_lt, jw_le, jw_eq, jw_div, Int.toNat_natCast, if_pos, if_neg, if_true, if_false, Option.bind_some, Int.natCast_add, Int.natCast_mul, Int.cast_ofNat_Int, Int.reduceToNat, Int.reduceAdd, Int.reduceMul, Int.reduceSub, Int.reduceNeg, Nat.reduceAdd, Nat.reduceMul, sM_howMany (w := 4) (by omega) b m bs ms]
  by_cases e9 : a = 9
  · subst e9
    refine ⟨jz (eSum (eMost D S) g), ?_, jz (eSum (eMost D S) g), ?_, rfl, V0⟩
    · simp (disch := omega) only [jz_lit, jz_neg, jz_nat, jz_add, jz_sub, jz_mul, jz_lt, jz_le, jz_eq, jz_ix, jin_z, jz_div, jzw, jwz, jw_lit, jw_neg, jw_add, jw_sub, jw_mul, jw_lt, jw_le, jw_eq, jw_div, Int.toNat_natCast, if_pos, if_neg, if_true, if_false, Option.bind_some, Int.natCast_add, Int.natCast_mul, Int.cast_ofNat_Int, Int.reduceToNat, Int.reduceAdd, Int.reduceMul, Int.reduceSub, Int.reduceNeg, Nat.reduceAdd, Nat.reduceMul, sPy_mostHeads b c bs cs]
    · simp (disch := omega) only [jz_lit, jz_neg, jz_nat, jz_add, jz_sub, jz_mul, jz_lt, jz_le, jz_eq, jz_ix, jin_z, jz_div, jzw, jwz, jw_lit, jw_neg, jw_add, jw_sub, jw_mul, jw_lt, jw_le, jw_eq, jw_div, Int.toNat_natCast, if_pos, if_neg, if_true, if_false, Option.bind_some, Int.natCast_add, Int.natCast_mul, Int.cast_ofNat_Int, Int.reduceToNat, Int.reduceAdd, Int.reduceMul, Int.reduceSub, Int.reduceNeg, Nat.reduceAdd, Nat.reduceMul, sM_headsMost b m bs ms]
  by_cases e10 : a = 10
  · subst e10
    refine ⟨jz cn, ?_, jz cn, ?_, rfl, V0⟩
    · simp (disch := omega) only [jz_lit, jz_neg, jz_nat, jz_add, jz_sub, jz_mul, jz_lt, jz_le, jz_eq, jz_ix, jin_z, jz_div, jzw, jwz, jw_lit, jw_neg, jw_add, jw_sub, jw_mul, jw_lt, jw_le, jw_eq, jw_div, Int.toNat_natCast, if_pos, if_neg, if_true, if_false, Option.bind_some, Int.natCast_add, Int.natCast_mul, Int.cast_ofNat_Int, Int.reduceToNat, Int.reduceAdd, Int.reduceMul, Int.reduceSub, Int.reduceNeg, Nat.reduceAdd, Nat.reduceMul, p3]
    · simp (disch := omega) only [jz_lit, jz_neg, jz_nat, jz_add, jz_sub, jz_mul, jz_lt, jz_le, jz_eq, jz_ix, jin_z, jz_div, jzw, jwz, jw_lit, jw_neg, jw_add, jw_sub, jw_mul, jw_lt, jw_le, jw_eq, jw_div, Int.toNat_natCast, if_pos, if_neg, if_true, if_false, Option.bind_some, Int.natCast_add, Int.natCast_mul, Int.cast_ofNat_Int, Int.reduceToNat, Int.reduceAdd, Int.reduceMul, Int.reduceSub, Int.reduceNeg, Nat.reduceAdd, Nat.reduceMul, p4]
  · refine ⟨jz (-1), ?_, jz (-1), ?_, rfl, V0⟩
    · simp (disch := omega) only [jz_lit, jz_neg, jz_nat, jz_add, jz_sub, jz_mul, jz_lt, jz_le, jz_eq, jz_ix, jin_z, jz_div, jzw, jwz, jw_lit, jw_neg, jw_add, jw_sub, jw_mul, jw_lt, jw_le, jw_eq, jw_div, Int.toNat_natCast, if_pos, if_neg, if_true, if_false, Option.bind_some, Int.natCast_add, Int.natCast_mul, Int.cast_ofNat_Int, Int.reduceToNat, Int.reduceAdd, Int.reduceMul, Int.reduceSub, Int.reduceNeg, Nat.reduceAdd, Nat.reduceMul]
    · simp (disch := omega) only [jz_lit, jz_neg, jz_nat, jz_add, jz_sub, jz_mul, jz_lt, jz_le, jz_eq, jz_ix, jin_z, jz_div, jzw, jwz, jw_lit, jw_neg, jw_add, jw_sub, jw_mul, jw_lt, jw_le, jw_eq, jw_div, Int.toNat_natCast, if_pos, if_neg, if_true, if_false, Option.bind_some, Int.natCast_add, Int.natCast_mul, Int.cast_ofNat_Int, Int.reduceToNat, Int.reduceAdd, Int.reduceMul, Int.reduceSub, Int.reduceNeg, Nat.reduceAdd, Nat.reduceMul]
