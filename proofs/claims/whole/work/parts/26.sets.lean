/-! Sets of guests: sums over them, whole ones, what is seen, what is safe -/
theorem eSub_bit {x m : Nat} : x ||| m = m ↔ ∀ i, x.testBit i = true → m.testBit i = true := by
  constructor
  · intro h i hi
    rw [← h, Nat.testBit_or, hi]
    rfl
  · intro h
    apply Nat.eq_of_testBit_eq
    intro i
    rw [Nat.testBit_or]
    by_cases hi : x.testBit i = true
    · rw [hi, h i hi]; rfl
    · simp [hi]
theorem eSub_or {x y m : Nat} : (x ||| y) ||| m = m ↔ x ||| m = m ∧ y ||| m = m := by
  rw [eSub_bit, eSub_bit, eSub_bit]
  constructor
  · intro h
    exact ⟨fun i hi => h i (by rw [Nat.testBit_or, hi]; rfl), fun i hi => h i (by rw [Nat.testBit_or, hi]; simp)⟩
  · rintro ⟨h1, h2⟩ i hi
    rw [Nat.testBit_or] at hi
    rcases Bool.or_eq_true _ _ ▸ hi with a | a
    · exact h1 i a
    · exact h2 i a
/-- a sum over a set -/
def eOver (f : Nat → Int) (s n : Nat) : Int := eSum (fun k => if s.testBit k then f k else 0) n
/-- whom a set pulls -/
def ePul (P : Nat → Nat) (s : Nat) : Nat → Nat
  | 0 => 0
  | n + 1 => if s.testBit n then ePul P s n ||| P n else ePul P s n
theorem ePul_sub {P : Nat → Nat} {s m : Nat} : ∀ {n : Nat}, ePul P s n ||| m = m ↔ ∀ k, k < n → s.testBit k = true → P k ||| m = m := by
  intro n
  induction n with
  | zero => simp [ePul]
  | succ n ih =>
    unfold ePul
    split
    · next h =>
      rw [eSub_or, ih]
      constructor
      · rintro ⟨h1, h2⟩ k hk hs
        by_cases e : k = n
        · subst e; exact h2
        · exact h1 k (by omega) hs
      · intro h1
        exact ⟨fun k hk => h1 k (by omega), h1 n (by omega) h⟩
    · next h =>
      rw [ih]
      constructor
      · intro h1 k hk hs
        by_cases e : k = n
        · subst e; exact absurd hs h
        · exact h1 k (by omega) hs
      · intro h1 k hk
        exact h1 k (by omega)
theorem ePul_lt {P : Nat → Nat} {s m : Nat} : ∀ {n : Nat}, (∀ k, k < n → P k < 2 ^ m) → ePul P s n < 2 ^ m := by
  intro n
  induction n with
  | zero => intro _; exact Nat.two_pow_pos m
  | succ n ih =>
    intro h
    unfold ePul
    split
    · exact Nat.or_lt_two_pow (ih (fun k hk => h k (by omega))) (h n (by omega))
    · exact ih (fun k hk => h k (by omega))
abbrev ePD (D : jD) (k : Nat) : Nat := (D 7 k).toNat
abbrev eHD (D : jD) (k : Nat) : Nat := (D 8 k).toNat
def eWhole (D : jD) (g s a : Nat) : Bool := decide (ePul (ePD D) s g ||| (s ||| a) = s ||| a)
/-- how slighted guest k is when just the set s is asked -/
def eSli (D : jD) (s k : Nat) : Int := if s.testBit k then 0 else if eHD D k &&& s = 0 then 0 else D 6 k
theorem two8 {g : Nat} (h : g ≤ 8) : 2 ^ g ≤ 256 := Nat.pow_le_pow_right (show 0 < 2 by omega) h
section ES
variable {p g : Nat} {D S : jD} {h : jH}
theorem sPn_allSets (b : bV g D) (c : cV p g D h) : fPn_allSets p h = jz ((2 ^ g : Nat) : Int) := by
  have b0 := b.1
  unfold fPn_allSets
  rw [c.1]
  exact jbit_shl (show g < 20 by omega)
theorem sM_allGuests (b : bV g D) (m : mV g D h) : fM_allGuests h = some (jz (((2 ^ g : Nat) : Int) - 1)) := by
  have b0 := b.1
  unfold fM_allGuests
  rw [sM_guestMany m, Option.bind_some]
  have := jbit_shl (show g < 20 by omega)
  rw [show ((1 : Int32) <<< (jz (g : Int) &&& 31)) = jz ((2 ^ g : Nat) : Int) from this, jz_lit, jz_sub]
theorem sPn_sumOver {v s : Nat} {f : Nat → Int} (b : bV g D) (c : cV p g D h) (hv : (jsh v).2 = 8) (hf : ∀ k, k < g → h.1 v k = jz (f k)) (hs : s < 256) : fPn_sumOver p (jz s) v h = some (jz (eOver f s g)) := by
  have b0 := b.1
  have c0 := c.1
  unfold fPn_sumOver
  have hl : jlim (fPn_sumOver_l5 p (jz s) v h) (0, 0) = some (jz (eOver f s g)) := by
    refine jlim_go (fun k => (jz (eOver f s k), jz k)) g rfl (fun i hi => ?_) ?_
    · have e : eOver f s (i + 1) = eOver f s i + (if s.testBit i then f i else 0) := rfl
      simp only [fPn_sumOver_l5, fPn_sumOver_l5_b, fPn_sumOver_l5_j38, c0, hv, e]
      cases ht : s.testBit i with
      | true => simp (disch := omega) only [jz_lit, jz_neg, jz_nat, jz_add, jz_sub, jz_mul, jz_lt, jz_le, jz_eq, jz_ix, jin_z, jz_div, jzw, jwz, jw_lit, jw_neg, jw_add, jw_sub, jw_mul, jw_lt, jw_le, jw_eq, jw_div, Int.toNat_natCast, if_pos, if_neg, if_true, if_false, Option.bind_some, Int.natCast_add, Int.natCast_mul, Int.cast_ofNat_Int, Int.reduceToNat, Int.reduceAdd, Int.reduceMul, Int.reduceSub, Int.reduceNeg, Nat.reduceAdd, Nat.reduceMul, jbit_at hs (show i < 8 by omega), ht, hf]
      | false => simp (disch := omega) only [jz_lit, jz_neg, jz_nat, jz_add, jz_sub, jz_mul, jz_lt, jz_le, jz_eq, jz_ix, jin_z, jz_div, jzw, jwz, jw_lit, jw_neg, jw_add, jw_sub, jw_mul, jw_lt, jw_le, jw_eq, jw_div, Int.toNat_natCast, if_pos, if_neg, if_true, if_false, Option.bind_some, Int.natCast_add, Int.natCast_mul, Int.cast_ofNat_Int, Int.reduceToNat, Int.reduceAdd, Int.reduceMul, Int.reduceSub, Int.reduceNeg, Nat.reduceAdd, Nat.reduceMul, jbit_at hs (show i < 8 by omega), ht, hf, Bool.false_eq_true, Int.add_zero]
    · simp only [fPn_sumOver_l5, fPn_sumOver_l5_b, c0]
      simp (disch := omega) only [jz_lit, jz_neg, jz_nat, jz_add, jz_sub, jz_mul, jz_lt, jz_le, jz_eq, jz_ix, jin_z, jz_div, jzw, jwz, jw_lit, jw_neg, jw_add, jw_sub, jw_mul, jw_lt, jw_le, jw_eq, jw_div, Int.toNat_natCast, if_pos, if_neg, if_true, if_false, Option.bind_some, Int.natCast_add, Int.natCast_mul, Int.cast_ofNat_Int, Int.reduceToNat, Int.reduceAdd, Int.reduceMul, Int.reduceSub, Int.reduceNeg, Nat.reduceAdd, Nat.reduceMul]
  rw [hl]
  rfl
theorem sM_sizeBy {s : Nat} (b : bV g D) (m : mV g D h) (hs : s < 256) : fM_sizeBy (jz s) h = some (jz (eOver (D 5) s g)) := by
  have b0 := b.1
  unfold fM_sizeBy
  have hl : jlim (fM_sizeBy_l4 (jz s) h) (0, 0) = some (jz (eOver (D 5) s g)) := by
    refine jlim_go (fun k => (jz (eOver (D 5) s k), jz k)) g rfl (fun i hi => ?_) ?_
    · have e : eOver (D 5) s (i + 1) = eOver (D 5) s i + (if s.testBit i then D 5 i else 0) := rfl
      simp only [fM_sizeBy_l4, fM_sizeBy_l4_b, fM_sizeBy_l4_j29, sM_guestMany m, e]
      cases ht : s.testBit i with
      | true => simp (disch := omega) only [jz_lit, jz_neg, jz_nat, jz_add, jz_sub, jz_mul, jz_lt, jz_le, jz_eq, jz_ix, jin_z, jz_div, jzw, jwz, jw_lit, jw_neg, jw_add, jw_sub, jw_mul, jw_lt, jw_le, jw_eq, jw_div, Int.toNat_natCast, if_pos, if_neg, if_true, if_false, Option.bind_some, Int.natCast_add, Int.natCast_mul, Int.cast_ofNat_Int, Int.reduceToNat, Int.reduceAdd, Int.reduceMul, Int.reduceSub, Int.reduceNeg, Nat.reduceAdd, Nat.reduceMul, jbit_at hs (show i < 8 by omega), ht, sM_sizeOf b m hi]
      | false => simp (disch := omega) only [jz_lit, jz_neg, jz_nat, jz_add, jz_sub, jz_mul, jz_lt, jz_le, jz_eq, jz_ix, jin_z, jz_div, jzw, jwz, jw_lit, jw_neg, jw_add, jw_sub, jw_mul, jw_lt, jw_le, jw_eq, jw_div, Int.toNat_natCast, if_pos, if_neg, if_true, if_false, Option.bind_some, Int.natCast_add, Int.natCast_mul, Int.cast_ofNat_Int, Int.reduceToNat, Int.reduceAdd, Int.reduceMul, Int.reduceSub, Int.reduceNeg, Nat.reduceAdd, Nat.reduceMul, jbit_at hs (show i < 8 by omega), ht, Bool.false_eq_true, Int.add_zero]
    · simp only [fM_sizeBy_l4, fM_sizeBy_l4_b, sM_guestMany m]
      simp (disch := omega) only [jz_lit, jz_neg, jz_nat, jz_add, jz_sub, jz_mul, jz_lt, jz_le, jz_eq, jz_ix, jin_z, jz_div, jzw, jwz, jw_lit, jw_neg, jw_add, jw_sub, jw_mul, jw_lt, jw_le, jw_eq, jw_div, Int.toNat_natCast, if_pos, if_neg, if_true, if_false, Option.bind_some, Int.natCast_add, Int.natCast_mul, Int.cast_ofNat_Int, Int.reduceToNat, Int.reduceAdd, Int.reduceMul, Int.reduceSub, Int.reduceNeg, Nat.reduceAdd, Nat.reduceMul]
  rw [hl]
  rfl
theorem sM_joyBy {s : Nat} (b : bV g D) (m : mV g D h) (hs : s < 256) : fM_joyBy (jz s) h = some (jz (eOver (D 4) s g)) := by
  have b0 := b.1
  unfold fM_joyBy
  have hl : jlim (fM_joyBy_l4 (jz s) h) (0, 0) = some (jz (eOver (D 4) s g)) := by
    refine jlim_go (fun k => (jz (eOver (D 4) s k), jz k)) g rfl (fun i hi => ?_) ?_
    · have e : eOver (D 4) s (i + 1) = eOver (D 4) s i + (if s.testBit i then D 4 i else 0) := rfl
      simp only [fM_joyBy_l4, fM_joyBy_l4_b, fM_joyBy_l4_j29, sM_guestMany m, e]
      cases ht : s.testBit i with
      | true => simp (disch := omega) only [jz_lit, jz_neg, jz_nat, jz_add, jz_sub, jz_mul, jz_lt, jz_le, jz_eq, jz_ix, jin_z, jz_div, jzw, jwz, jw_lit, jw_neg, jw_add, jw_sub, jw_mul, jw_lt, jw_le, jw_eq, jw_div, Int.toNat_natCast, if_pos, if_neg, if_true, if_false, Option.bind_some, Int.natCast_add, Int.natCast_mul, Int.cast_ofNat_Int, Int.reduceToNat, Int.reduceAdd, Int.reduceMul, Int.reduceSub, Int.reduceNeg, Nat.reduceAdd, Nat.reduceMul, jbit_at hs (show i < 8 by omega), ht, sM_joyOf b m hi]
      | false => simp (disch := omega) only [jz_lit, jz_neg, jz_nat, jz_add, jz_sub, jz_mul, jz_lt, jz_le, jz_eq, jz_ix, jin_z, jz_div, jzw, jwz, jw_lit, jw_neg, jw_add, jw_sub, jw_mul, jw_lt, jw_le, jw_eq, jw_div, Int.toNat_natCast, if_pos, if_neg, if_true, if_false, Option.bind_some, Int.natCast_add, Int.natCast_mul, Int.cast_ofNat_Int, Int.reduceToNat, Int.reduceAdd, Int.reduceMul, Int.reduceSub, Int.reduceNeg, Nat.reduceAdd, Nat.reduceMul, jbit_at hs (show i < 8 by omega), ht, Bool.false_eq_true, Int.add_zero]
    · simp only [fM_joyBy_l4, fM_joyBy_l4_b, sM_guestMany m]
      simp (disch := omega) only [jz_lit, jz_neg, jz_nat, jz_add, jz_sub, jz_mul, jz_lt, jz_le, jz_eq, jz_ix, jin_z, jz_div, jzw, jwz, jw_lit, jw_neg, jw_add, jw_sub, jw_mul, jw_lt, jw_le, jw_eq, jw_div, Int.toNat_natCast, if_pos, if_neg, if_true, if_false, Option.bind_some, Int.natCast_add, Int.natCast_mul, Int.cast_ofNat_Int, Int.reduceToNat, Int.reduceAdd, Int.reduceMul, Int.reduceSub, Int.reduceNeg, Nat.reduceAdd, Nat.reduceMul]
  rw [hl]
  rfl
theorem eD7 {k : Nat} (b : bV g D) (hk : k < 8) : D 7 k = ((ePD D k : Nat) : Int) ∧ ePD D k < 2 ^ g ∧ ePD D k < 256 := by
  have h1 := b.2.2.2.2 k hk
  have h2 := two8 b.1
  have h3 : ((2 ^ g : Nat) : Int) = (2 : Int) ^ g := by simp
  unfold ePD
  omega
theorem eD8 {k : Nat} (b : bV g D) (hk : k < 8) : D 8 k = ((eHD D k : Nat) : Int) ∧ eHD D k < 2 ^ g ∧ eHD D k < 256 := by
  have h1 := b.2.2.2.2 k hk
  have h2 := two8 b.1
  have h3 : ((2 ^ g : Nat) : Int) = (2 : Int) ^ g := by simp
  unfold eHD
  omega
theorem sPn_pulledBy {s : Nat} (b : bV g D) (c : cV p g D h) (hs : s < 256) : fPn_pulledBy p (jz s) h = some (jz (ePul (ePD D) s g)) := by
  have b0 := b.1
  have c0 := c.1
  have cp := c.2.2.2.2
  unfold fPn_pulledBy
  have hl : jlim (fPn_pulledBy_l4 p (jz s) h) (0, 0) = some (jz (ePul (ePD D) s g)) := by
    refine jlim_go (fun k => (jz (ePul (ePD D) s k), jz k)) g rfl (fun i hi => ?_) ?_
    · have e : ePul (ePD D) s (i + 1) = if s.testBit i then ePul (ePD D) s i ||| ePD D i else ePul (ePD D) s i := rfl
      have e7 := eD7 b (show i < 8 by omega)
      have e8 : h.1 (p + 6) i = jz (ePD D i) := by rw [(cp i (by omega)).1, e7.1]
      simp only [fPn_pulledBy_l4, fPn_pulledBy_l4_b, fPn_pulledBy_l4_j36, c0, e]
      cases ht : s.testBit i with
      | true => simp (disch := omega) only [jz_lit, jz_neg, jz_nat, jz_add, jz_sub, jz_mul, jz_lt, jz_le, jz_eq, jz_ix, jin_z, jz_div, jzw, jwz, jw_lit, jw_neg, jw_add, jw_sub, jw_mul, jw_lt, jw_le, jw_eq, jw_div, Int.toNat_natCast, if_pos, if_neg, if_true, if_false, Option.bind_some, Int.natCast_add, Int.natCast_mul, Int.cast_ofNat_Int, Int.reduceToNat, Int.reduceAdd, Int.reduceMul, Int.reduceSub, Int.reduceNeg, Nat.reduceAdd, Nat.reduceMul, jbit_at hs (show i < 8 by omega), ht, e8, jbit_or]
      | false => simp (disch := omega) only [jz_lit, jz_neg, jz_nat, jz_add, jz_sub, jz_mul, jz_lt, jz_le, jz_eq, jz_ix, jin_z, jz_div, jzw, jwz, jw_lit, jw_neg, jw_add, jw_sub, jw_mul, jw_lt, jw_le, jw_eq, jw_div, Int.toNat_natCast, if_pos, if_neg, if_true, if_false, Option.bind_some, Int.natCast_add, Int.natCast_mul, Int.cast_ofNat_Int, Int.reduceToNat, Int.reduceAdd, Int.reduceMul, Int.reduceSub, Int.reduceNeg, Nat.reduceAdd, Nat.reduceMul, jbit_at hs (show i < 8 by omega), ht, Bool.false_eq_true]
    · simp only [fPn_pulledBy_l4, fPn_pulledBy_l4_b, c0]
      simp (disch := omega) only [jz_lit, jz_neg, jz_nat, jz_add, jz_sub, jz_mul, jz_lt, jz_le, jz_eq, jz_ix, jin_z, jz_div, jzw, jwz, jw_lit, jw_neg, jw_add, jw_sub, jw_mul, jw_lt, jw_le, jw_eq, jw_div, Int.toNat_natCast, if_pos, if_neg, if_true, if_false, Option.bind_some, Int.natCast_add, Int.natCast_mul, Int.cast_ofNat_Int, Int.reduceToNat, Int.reduceAdd, Int.reduceMul, Int.reduceSub, Int.reduceNeg, Nat.reduceAdd, Nat.reduceMul]
  rw [hl]
  rfl
theorem sPy_isWhole {s a : Nat} (b : bV g D) (c : cV p g D h) (hs : s < 256) (ha : a < 256) : fPy_isWhole p (jz s) (jz a) h = some (if eWhole D g s a then jz 1 else jz 0) := by
  have b0 := b.1
  have hp : ePul (ePD D) s g < 256 := Nat.lt_of_lt_of_le (ePul_lt (m := g) (fun k hk => (eD7 b (by omega)).2.1)) (two8 b0)
  have ho : s ||| a < 256 := Nat.or_lt_two_pow (n := 8) hs ha
  unfold fPy_isWhole
  rw [sPn_pulledBy b c hs, Option.bind_some, jbit_or]
  have e := jbit_sub hp ho
  by_cases hw : ePul (ePD D) s g ||| (s ||| a) = s ||| a
  · have e1 := e.mpr hw
    show (if jz (ePul (ePD D) s g : Int) &&& (jz (s ||| a : Nat) ^^^ jz (-1)) = jz 0 then some (1 : Int32) else some 0) = _
    rw [if_pos e1]
    unfold eWhole
    simp only [hw, decide_true, if_true]
    rfl
  · show (if jz (ePul (ePD D) s g : Int) &&& (jz (s ||| a : Nat) ^^^ jz (-1)) = jz 0 then some (1 : Int32) else some 0) = _
    rw [if_neg (fun h => hw (e.mp h))]
    unfold eWhole
    simp only [hw, decide_false, Bool.false_eq_true, if_false]
    rfl
theorem sM_isWhole {s a : Nat} (b : bV g D) (m : mV g D h) (hs : s < 256) (ha : a < 256) : fM_isWhole (jz s) (jz a) h = some (if eWhole D g s a then jz 1 else jz 0) := by
  have b0 := b.1
  have ho : s ||| a < 256 := Nat.or_lt_two_pow (n := 8) hs ha
  unfold fM_isWhole
  have hstep : ∀ i, i < g → fM_isWhole_l2 (jz s) (jz a) h (jz i) = if s.testBit i = true → ePD D i ||| (s ||| a) = s ||| a then some (.inl (jz ((i + 1 : Nat) : Int))) else some (.inr (.inl ())) := by
    intro i hi
    have e7 := eD7 b (show i < 8 by omega)
    have e8 : h.1 142 (8 + i) = jz (ePD D i) := by rw [(m.2.2.2.2 i (by omega)).1, e7.1]
    have e := jbit_sub e7.2.2 ho
    simp only [fM_isWhole_l2, fM_isWhole_l2_b, fM_isWhole_l2_j39, sM_guestMany m]
    cases ht : s.testBit i with
    | true =>
      simp (disch := omega) only [jz_lit, jz_neg, jz_nat, jz_add, jz_sub, jz_mul, jz_lt, jz_le, jz_eq, jz_ix, jin_z, jz_div, jzw, jwz, jw_lit, jw_neg, jw_add, jw_sub, jw_mul, jw_lt, jw_le, jw_eq, jw_div, Int.toNat_natCast, if_pos, if_neg, if_true, if_false, Option.bind_some, Int.natCast_add, Int.natCast_mul, Int.cast_ofNat_Int, Int.reduceToNat, Int.reduceAdd, Int.reduceMul, Int.reduceSub, Int.reduceNeg, Nat.reduceAdd, Nat.reduceMul, jbit_at hs (show i < 8 by omega), ht, jbit_or]
      rw [show ((8 : Int) + (i : Int)).toNat = 8 + i by omega, e8]
      by_cases hw : ePD D i ||| (s ||| a) = s ||| a
      · rw [if_pos (e.mpr hw)]; simp [hw]
      · rw [if_neg (fun h => hw (e.mp h))]; simp [hw]
    | false => simp (disch := omega) only [jz_lit, jz_neg, jz_nat, jz_add, jz_sub, jz_mul, jz_lt, jz_le, jz_eq, jz_ix, jin_z, jz_div, jzw, jwz, jw_lit, jw_neg, jw_add, jw_sub, jw_mul, jw_lt, jw_le, jw_eq, jw_div, Int.toNat_natCast, if_pos, if_neg, if_true, if_false, Option.bind_some, Int.natCast_add, Int.natCast_mul, Int.cast_ofNat_Int, Int.reduceToNat, Int.reduceAdd, Int.reduceMul, Int.reduceSub, Int.reduceNeg, Nat.reduceAdd, Nat.reduceMul, jbit_at hs (show i < 8 by omega), ht, Bool.false_eq_true, false_implies]
  have hend : fM_isWhole_l2 (jz s) (jz a) h (jz g) = some (.inr (.inr ())) := by
    simp only [fM_isWhole_l2, fM_isWhole_l2_b, sM_guestMany m]
    simp (disch := omega) only [jz_lit, jz_neg, jz_nat, jz_add, jz_sub, jz_mul, jz_lt, jz_le, jz_eq, jz_ix, jin_z, jz_div, jzw, jwz, jw_lit, jw_neg, jw_add, jw_sub, jw_mul, jw_lt, jw_le, jw_eq, jw_div, Int.toNat_natCast, if_pos, if_neg, if_true, if_false, Option.bind_some, Int.natCast_add, Int.natCast_mul, Int.cast_ofNat_Int, Int.reduceToNat, Int.reduceAdd, Int.reduceMul, Int.reduceSub, Int.reduceNeg, Nat.reduceAdd, Nat.reduceMul]
  have hall : ∀ n k, k + n = g → ((∀ i, k ≤ i → i < g → s.testBit i = true → ePD D i ||| (s ||| a) = s ||| a) → jlim (fM_isWhole_l2 (jz s) (jz a) h) (jz k) = some (.inr ())) ∧ (¬ (∀ i, k ≤ i → i < g → s.testBit i = true → ePD D i ||| (s ||| a) = s ||| a) → jlim (fM_isWhole_l2 (jz s) (jz a) h) (jz k) = some (.inl ())) := by
    intro n
    induction n with
    | zero =>
      intro k hk
      have e : k = g := by omega
      rw [e]
      rw [jlim_eq, hend]
      exact ⟨fun _ => rfl, fun h9 => absurd (by intro i h1 h2; omega) h9⟩
    | succ n ih =>
      intro k hk
      rw [jlim_eq, hstep k (by omega)]
      by_cases hc : s.testBit k = true → ePD D k ||| (s ||| a) = s ||| a
      · rw [if_pos hc]
        have ih1 := ih (k + 1) (by omega)
        refine ⟨fun h9 => ih1.1 (fun i h1 h2 => h9 i (by omega) h2), fun h9 => ih1.2 (fun h8 => h9 (fun i h1 h2 => ?_))⟩
        by_cases e : i = k
        · subst e; exact hc
        · exact h8 i (by omega) h2
      · rw [if_neg hc]
        exact ⟨fun h9 => absurd (h9 k (by omega) (by omega)) hc, fun _ => rfl⟩
  have h0 := hall g 0 (by omega)
  rw [show (0 : Int32) = jz ((0 : Nat) : Int) from rfl]
  by_cases hw : eWhole D g s a = true
  · have hw2 : ePul (ePD D) s g ||| (s ||| a) = s ||| a := of_decide_eq_true hw
    rw [h0.1 (fun i _ h2 => ePul_sub.mp hw2 i h2), hw]
    rfl
  · rw [h0.2 (fun h9 => hw (decide_eq_true (ePul_sub.mpr (fun i h2 => h9 i (by omega) h2)))), if_neg hw]
    rfl
theorem sPn_slight {k s : Nat} (b : bV g D) (c : cV p g D h) (hk : k < g) (hs : s < 256) : fPn_slightIfAsked p (jz k) (jz s) h = some (jz (if eHD D k &&& s = 0 then 0 else D 6 k)) := by
  have b0 := b.1
  have e8 := eD8 b (show k < 8 by omega)
  have e9 : h.1 (p + 7) k = jz (eHD D k) := by rw [(c.2.2.2.2 k (by omega)).2.1, e8.1]
  have c5 := c.2.2.2.1
  have hle : eHD D k &&& s ≤ s := Nat.and_le_right
  unfold fPn_slightIfAsked fPn_slightIfAsked_j15
  by_cases hz : eHD D k &&& s = 0
  · simp (disch := omega) only [jz_lit, jz_neg, jz_nat, jz_add, jz_sub, jz_mul, jz_lt, jz_le, jz_eq, jz_ix, jin_z, jz_div, jzw, jwz, jw_lit, jw_neg, jw_add, jw_sub, jw_mul, jw_lt, jw_le, jw_eq, jw_div, Int.toNat_natCast, if_pos, if_neg, if_true, if_false, Option.bind_some, Int.natCast_add, Int.natCast_mul, Int.cast_ofNat_Int, Int.reduceToNat, Int.reduceAdd, Int.reduceMul, Int.reduceSub, Int.reduceNeg, Nat.reduceAdd, Nat.reduceMul, e9, jbit_and, hz]
    first | done | simp
  · simp (disch := omega) only [jz_lit, jz_neg, jz_nat, jz_add, jz_sub, jz_mul, jz_lt, jz_le, jz_eq, jz_ix, jin_z, jz_div, jzw, jwz, jw_lit, jw_neg, jw_add, jw_sub, jw_mul, jw_lt, jw_le, jw_eq, jw_div, Int.toNat_natCast, if_pos, if_neg, if_true, if_false, Option.bind_some, Int.natCast_add, Int.natCast_mul, Int.cast_ofNat_Int, Int.reduceToNat, Int.reduceAdd, Int.reduceMul, Int.reduceSub, Int.reduceNeg, Nat.reduceAdd, Nat.reduceMul, e9, jbit_and, hz, c5]
theorem sCh_slightsBy {s : Nat} (b : bV g D) (c : cV p g D h) (hs : s < 256) : fCh_slightsBy p (jz s) h = some (jz (eSum (eSli D s) g)) := by
  have b0 := b.1
  have c0 := c.1
  unfold fCh_slightsBy
  have hl : jlim (fCh_slightsBy_l4 p (jz s) h) (0, 0) = some (jz (eSum (eSli D s) g)) := by
    refine jlim_go (fun k => (jz (eSum (eSli D s) k), jz k)) g rfl (fun i hi => ?_) ?_
    · simp only [fCh_slightsBy_l4, fCh_slightsBy_l4_b, fCh_slightsBy_l4_j29, c0, eSum, eSli]
      cases ht : s.testBit i with
      | true => simp (disch := omega) only [jz_lit, jz_neg, jz_nat, jz_add, jz_sub, jz_mul, jz_lt, jz_le, jz_eq, jz_ix, jin_z, jz_div, jzw, jwz, jw_lit, jw_neg, jw_add, jw_sub, jw_mul, jw_lt, jw_le, jw_eq, jw_div, Int.toNat_natCast, if_pos, if_neg, if_true, if_false, Option.bind_some, Int.natCast_add, Int.natCast_mul, Int.cast_ofNat_Int, Int.reduceToNat, Int.reduceAdd, Int.reduceMul, Int.reduceSub, Int.reduceNeg, Nat.reduceAdd, Nat.reduceMul, jbit_at hs (show i < 8 by omega), ht, Int.add_zero]
      | false => simp (disch := omega) only [jz_lit, jz_neg, jz_nat, jz_add, jz_sub, jz_mul, jz_lt, jz_le, jz_eq, jz_ix, jin_z, jz_div, jzw, jwz, jw_lit, jw_neg, jw_add, jw_sub, jw_mul, jw_lt, jw_le, jw_eq, jw_div, Int.toNat_natCast, if_pos, if_neg, if_true, if_false, Option.bind_some, Int.natCast_add, Int.natCast_mul, Int.cast_ofNat_Int, Int.reduceToNat, Int.reduceAdd, Int.reduceMul, Int.reduceSub, Int.reduceNeg, Nat.reduceAdd, Nat.reduceMul, jbit_at hs (show i < 8 by omega), ht, Bool.false_eq_true, sPn_slight b c hi hs]
    · simp only [fCh_slightsBy_l4, fCh_slightsBy_l4_b, c0]
      simp (disch := omega) only [jz_lit, jz_neg, jz_nat, jz_add, jz_sub, jz_mul, jz_lt, jz_le, jz_eq, jz_ix, jin_z, jz_div, jzw, jwz, jw_lit, jw_neg, jw_add, jw_sub, jw_mul, jw_lt, jw_le, jw_eq, jw_div, Int.toNat_natCast, if_pos, if_neg, if_true, if_false, Option.bind_some, Int.natCast_add, Int.natCast_mul, Int.cast_ofNat_Int, Int.reduceToNat, Int.reduceAdd, Int.reduceMul, Int.reduceSub, Int.reduceNeg, Nat.reduceAdd, Nat.reduceMul]
  rw [hl]
  rfl
theorem sM_slights {s : Nat} (b : bV g D) (m : mV g D h) (hs : s < 256) : fM_slights (jz s) h = some (jz (eSum (eSli D s) g)) := by
  have b0 := b.1
  unfold fM_slights
  have hl : jlim (fM_slights_l4 (jz s) h) (0, 0) = some (jz (eSum (eSli D s) g)) := by
    refine jlim_go (fun k => (jz (eSum (eSli D s) k), jz k)) g rfl (fun i hi => ?_) ?_
    · have e8 := eD8 b (show i < 8 by omega)
      have e9 : h.1 143 (8 + i) = jz (eHD D i) := by rw [(m.2.2.2.2 i (by omega)).2, e8.1]
      have e10 := (m.2.2.2.1 i hi).2.2.2
      have hle : eHD D i &&& s ≤ s := Nat.and_le_right
      simp only [fM_slights_l4, fM_slights_l4_b, fM_slights_l4_j48, sM_guestMany m, eSum, eSli]
      cases ht : s.testBit i with
      | true => simp (disch := omega) only [jz_lit, jz_neg, jz_nat, jz_add, jz_sub, jz_mul, jz_lt, jz_le, jz_eq, jz_ix, jin_z, jz_div, jzw, jwz, jw_lit, jw_neg, jw_add, jw_sub, jw_mul, jw_lt, jw_le, jw_eq, jw_div, Int.toNat_natCast, if_pos, if_neg, if_true, if_false, Option.bind_some, Int.natCast_add, Int.natCast_mul, Int.cast_ofNat_Int, Int.reduceToNat, Int.reduceAdd, Int.reduceMul, Int.reduceSub, Int.reduceNeg, Nat.reduceAdd, Nat.reduceMul, jbit_at hs (show i < 8 by omega), ht, Int.add_zero]
      | false =>
        have q1 : ((8 : Int) + (i : Int)).toNat = 8 + i := by omega
        have q2 : ((35 : Int) + 4 * (i : Int)).toNat = 35 + 4 * i := by omega
        by_cases hz : eHD D i &&& s = 0
        · simp (disch := omega) only [jz_lit, jz_neg, jz_nat, jz_add, jz_sub, jz_mul, jz_lt, jz_le, jz_eq, jz_ix, jin_z, jz_div, jzw, jwz, jw_lit, jw_neg, jw_add, jw_sub, jw_mul, jw_lt, jw_le, jw_eq, jw_div, Int.toNat_natCast, if_pos, if_neg, if_true, if_false, Option.bind_some, Int.natCast_add, Int.natCast_mul, Int.cast_ofNat_Int, Int.reduceToNat, Int.reduceAdd, Int.reduceMul, Int.reduceSub, Int.reduceNeg, Nat.reduceAdd, Nat.reduceMul, jbit_at hs (show i < 8 by omega), ht, Bool.false_eq_true, q1, e9, jbit_and, hz, Int.add_zero]
          first | done | simp
        · simp (disch := omega) only [jz_lit, jz_neg, jz_nat, jz_add, jz_sub, jz_mul, jz_lt, jz_le, jz_eq, jz_ix, jin_z, jz_div, jzw, jwz, jw_lit, jw_neg, jw_add, jw_sub, jw_mul, jw_lt, jw_le, jw_eq, jw_div, Int.toNat_natCast, if_pos, if_neg, if_true, if_false, Option.bind_some, Int.natCast_add, Int.natCast_mul, Int.cast_ofNat_Int, Int.reduceToNat, Int.reduceAdd, Int.reduceMul, Int.reduceSub, Int.reduceNeg, Nat.reduceAdd, Nat.reduceMul, jbit_at hs (show i < 8 by omega), ht, Bool.false_eq_true, q1, e9, jbit_and, hz, q2, e10]
    · simp only [fM_slights_l4, fM_slights_l4_b, sM_guestMany m]
      simp (disch := omega) only [jz_lit, jz_neg, jz_nat, jz_add, jz_sub, jz_mul, jz_lt, jz_le, jz_eq, jz_ix, jin_z, jz_div, jzw, jwz, jw_lit, jw_neg, jw_add, jw_sub, jw_mul, jw_lt, jw_le, jw_eq, jw_div, Int.toNat_natCast, if_pos, if_neg, if_true, if_false, Option.bind_some, Int.natCast_add, Int.natCast_mul, Int.cast_ofNat_Int, Int.reduceToNat, Int.reduceAdd, Int.reduceMul, Int.reduceSub, Int.reduceNeg, Nat.reduceAdd, Nat.reduceMul]
  rw [hl]
  rfl
theorem eSli_b {s k : Nat} (b : bV g D) (hk : k < g) : 0 ≤ eSli D s k ∧ eSli D s k ≤ 99 := by
  have b3 := b.2.2.2.1 k hk
  unfold eSli
  repeat' split
  all_goals omega
theorem eSliS_b {s : Nat} (b : bV g D) : 0 ≤ eSum (eSli D s) g ∧ eSum (eSli D s) g ≤ 800 := by
  have b0 := b.1
  have := eSum_b (f := eSli D s) (m := 99) (n := g) (fun k hk => eSli_b b hk)
  omega
theorem eOver_b {f : Nat → Int} {m : Int} {s n : Nat} (hm : 0 ≤ m) (hf : ∀ k, k < n → 0 ≤ f k ∧ f k ≤ m) : 0 ≤ eOver f s n ∧ eOver f s n ≤ m * n := by
  refine eSum_b (fun k hk => ?_)
  have := hf k hk
  split <;> omega
theorem eOver4_b {s : Nat} (b : bV g D) : 0 ≤ eOver (D 4) s g ∧ eOver (D 4) s g ≤ 800 := by
  have b0 := b.1
  have := eOver_b (f := D 4) (m := 99) (s := s) (n := g) (by omega) (fun k hk => by have := b.2.2.2.1 k hk; omega)
  omega
theorem eOver5_b {s : Nat} (b : bV g D) : 0 ≤ eOver (D 5) s g ∧ eOver (D 5) s g ≤ 32 := by
  have b0 := b.1
  have := eOver_b (f := D 5) (m := 4) (s := s) (n := g) (by omega) (fun k hk => by have := b.2.2.2.1 k hk; omega)
  omega
end ES
