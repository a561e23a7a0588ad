/-! A picture read -/
theorem jlim_bad {S E : Type} {step : S → Option (S ⊕ E)} (mk : Nat → S) {e : E} {n : Nat} (hs : ∀ k, k < n → step (mk k) = some (.inl (mk (k + 1))) ∨ step (mk k) = some (.inr e)) (hb : step (mk n) = some (.inr e)) : jlim step (mk 0) = some e := by
  have : ∀ m a, a + m = n → jlim step (mk a) = some e := by
    intro m
    induction m with
    | zero =>
      intro a ha
      have : a = n := by omega
      subst this
      rw [jlim_eq, hb]
    | succ m ih =>
      intro a ha
      rcases hs a (by omega) with h1 | h1
      · rw [jlim_eq, h1]; exact ih (a + 1) (by omega)
      · rw [jlim_eq, h1]
  exact this n 0 (by omega)
def eAny (f : Nat → Bool) : Nat → Bool
  | 0 => false
  | n + 1 => eAny f n || f n
theorem eAny_t (f : Nat → Bool) : ∀ n, eAny f n = true ↔ ∃ k, k < n ∧ f k = true := by
  intro n
  induction n with
  | zero => exact ⟨fun h => absurd h (by simp [eAny]), fun ⟨k, h, _⟩ => absurd h (by omega)⟩
  | succ n ih =>
    rw [eAny, Bool.or_eq_true, ih]
    constructor
    · rintro (⟨k, h1, h2⟩ | h)
      · exact ⟨k, by omega, h2⟩
      · exact ⟨n, by omega, h⟩
    · rintro ⟨k, h1, h2⟩
      by_cases e : k = n
      · subst e; exact Or.inr h2
      · exact Or.inl ⟨k, by omega, h2⟩
theorem eAny_f (f : Nat → Bool) (n : Nat) : eAny f n = false ↔ ∀ k, k < n → f k = false := by
  rw [← Bool.not_eq_true, eAny_t]
  constructor
  · intro h k hk
    rw [← Bool.not_eq_true]
    exact fun x => h ⟨k, hk, x⟩
  · rintro h ⟨k, h1, h2⟩
    rw [h k h1] at h2
    exact Bool.false_ne_true h2
def eSound (R : jD) (g : Nat) : Prop := R 0 1 ≤ 999 ∧ R 0 2 ≤ R 0 1 ∧ (R 0 2 = -1 ↔ ∀ k, k < g → R 1 k = 0) ∧ (∀ k, k < g → R 1 k ≤ 4 ∧ (R 1 k = 0 → R 2 k = 0) ∧ (R 1 k ≠ 0 → R 2 k ≤ R 0 1 - R 0 2)) ∧ (R 0 2 = -1 ∨ ∃ k, k < g ∧ R 1 k ≠ 0 ∧ R 2 k = 0)
def eRdB (R : jD) : Prop := 0 ≤ R 0 1 ∧ R 0 1 ≤ 65535 ∧ -1 ≤ R 0 2 ∧ R 0 2 ≤ 65535 ∧ ∀ k, k < 8 → 0 ≤ R 1 k ∧ R 1 k ≤ 255 ∧ 0 ≤ R 2 k ∧ R 2 k ≤ 65535
section EON
variable {p g n : Nat} {D S R : jD} {T : Nat → Nat} {h : jH}
theorem jset_z {f : Nat → Bool} (n : Nat) : jset f n = 0 ↔ ∀ k, k < n → f k = false := by
  constructor
  · intro e k hk
    have := jset_bit f k n
    rw [e, Nat.zero_testBit] at this
    simp only [hk, decide_true, Bool.true_and] at this
    exact this.symm
  · intro e
    exact jset_le f (Nat.zero_le n) (fun k _ hk => e k hk)
theorem sSd_sndl {o : Nat} {s : Int} (c : cS o R h) (b : eRdB R) (h1 : R 0 1 ≤ 999) (hs : s = 0 ∨ s = 1) : ((∀ k, k < 8 → R 1 k ≤ 4 ∧ R 2 k ≤ if R 1 k = 0 then 0 else if R 0 2 = -1 then 0 else R 0 1 - R 0 2) → jlim (fSd_isSound_l67 o h) (jz s, jz 0) = some (.inr (jz (if s = 1 ∨ eAny (fun k => decide (R 1 k ≠ 0 ∧ R 2 k = 0)) 8 = true then 1 else 0)))) ∧ ((∃ k, k < 8 ∧ ¬ (R 1 k ≤ 4 ∧ R 2 k ≤ if R 1 k = 0 then 0 else if R 0 2 = -1 then 0 else R 0 1 - R 0 2)) → jlim (fSd_isSound_l67 o h) (jz s, jz 0) = some (.inl ())) := by
  obtain ⟨c1, c2, c3⟩ := c
  obtain ⟨b1, b2, b3, b4, b5⟩ := b
  have hbn : fSd_behindNow o h = jz (if R 0 2 = -1 then 0 else R 0 1 - R 0 2) := by
    unfold fSd_behindNow
    rw [c1, c2]
    by_cases e : R 0 2 = -1
    · simp (disch := omega) only [Bool.false_eq_true, jz_lit, jz_neg, jz_nat, jz_add, jz_sub, jz_mul, jz_lt, jz_le, jz_eq, jz_ix, jin_z, jz_div, jzw, jwz, jw_lit, jw_neg, jw_add, jw_sub, jw_mul, jw_lt, jw_le, jw_eq, jw_div, Int.toNat_natCast, if_pos, if_neg, if_true, if_false, Option.bind_some, Int.natCast_add, Int.natCast_mul, Int.cast_ofNat_Int, Int.reduceToNat, Int.reduceAdd, Int.reduceMul, Int.reduceSub, Int.reduceNeg, Nat.reduceAdd, Nat.reduceMul, e]
    · simp (disch := omega) only [Bool.false_eq_true, jz_lit, jz_neg, jz_nat, jz_add, jz_sub, jz_mul, jz_lt, jz_le, jz_eq, jz_ix, jin_z, jz_div, jzw, jwz, jw_lit, jw_neg, jw_add, jw_sub, jw_mul, jw_lt, jw_le, jw_eq, jw_div, Int.toNat_natCast, if_pos, if_neg, if_true, if_false, Option.bind_some, Int.natCast_add, Int.natCast_mul, Int.cast_ofNat_Int, Int.reduceToNat, Int.reduceAdd, Int.reduceMul, Int.reduceSub, Int.reduceNeg, Nat.reduceAdd, Nat.reduceMul]
  have hbb : -65535 ≤ (if R 0 2 = -1 then 0 else R 0 1 - R 0 2) ∧ (if R 0 2 = -1 then 0 else R 0 1 - R 0 2) ≤ 65536 := by split <;> omega
  generalize (if R 0 2 = -1 then (0 : Int) else R 0 1 - R 0 2) = y at hbn hbb ⊢
  have st : ∀ k, k < 8 → (R 1 k ≤ 4 ∧ R 2 k ≤ if R 1 k = 0 then 0 else y) → fSd_isSound_l67 o h (jz (if s = 1 ∨ eAny (fun k => decide (R 1 k ≠ 0 ∧ R 2 k = 0)) k = true then 1 else 0), jz k) = some (.inl (jz (if s = 1 ∨ eAny (fun k => decide (R 1 k ≠ 0 ∧ R 2 k = 0)) (k + 1) = true then 1 else 0), jz ((k + 1 : Nat) : Int))) := by
    intro k hk ok
    obtain ⟨r1, r2⟩ := c3 k hk
    have b := b5 k hk
    simp only [fSd_isSound_l67, fSd_isSound_l67_b, fSd_isSound_l67_j90, fSd_isSound_l67_j133, hbn, eAny]
    by_cases e : R 1 k = 0
    · rw [if_pos e] at ok
      have x : decide (R 1 k ≠ 0 ∧ R 2 k = 0) = false := decide_eq_false (fun t => t.1 e)
      simp only [x, Bool.or_false]
      simp (disch := omega) only [Bool.false_eq_true, jz_lit, jz_neg, jz_nat, jz_add, jz_sub, jz_mul, jz_lt, jz_le, jz_eq, jz_ix, jin_z, jz_div, jzw, jwz, jw_lit, jw_neg, jw_add, jw_sub, jw_mul, jw_lt, jw_le, jw_eq, jw_div, Int.toNat_natCast, if_pos, if_neg, if_true, if_false, Option.bind_some, Int.natCast_add, Int.natCast_mul, Int.cast_ofNat_Int, Int.reduceToNat, Int.reduceAdd, Int.reduceMul, Int.reduceSub, Int.reduceNeg, Nat.reduceAdd, Nat.reduceMul, r1, r2]
    · rw [if_neg e] at ok
      by_cases e2 : R 2 k = 0
      · have x : decide (R 1 k ≠ 0 ∧ R 2 k = 0) = true := decide_eq_true ⟨e, e2⟩
        simp only [x, Bool.or_true, or_true, if_true]
        simp (disch := omega) only [Bool.false_eq_true, jz_lit, jz_neg, jz_nat, jz_add, jz_sub, jz_mul, jz_lt, jz_le, jz_eq, jz_ix, jin_z, jz_div, jzw, jwz, jw_lit, jw_neg, jw_add, jw_sub, jw_mul, jw_lt, jw_le, jw_eq, jw_div, Int.toNat_natCast, if_pos, if_neg, if_true, if_false, Option.bind_some, Int.natCast_add, Int.natCast_mul, Int.cast_ofNat_Int, Int.reduceToNat, Int.reduceAdd, Int.reduceMul, Int.reduceSub, Int.reduceNeg, Nat.reduceAdd, Nat.reduceMul, r1, r2]
      · have x : decide (R 1 k ≠ 0 ∧ R 2 k = 0) = false := decide_eq_false (fun t => e2 t.2)
        simp only [x, Bool.or_false]
        simp (disch := omega) only [Bool.false_eq_true, jz_lit, jz_neg, jz_nat, jz_add, jz_sub, jz_mul, jz_lt, jz_le, jz_eq, jz_ix, jin_z, jz_div, jzw, jwz, jw_lit, jw_neg, jw_add, jw_sub, jw_mul, jw_lt, jw_le, jw_eq, jw_div, Int.toNat_natCast, if_pos, if_neg, if_true, if_false, Option.bind_some, Int.natCast_add, Int.natCast_mul, Int.cast_ofNat_Int, Int.reduceToNat, Int.reduceAdd, Int.reduceMul, Int.reduceSub, Int.reduceNeg, Nat.reduceAdd, Nat.reduceMul, r1, r2]
  have sb : ∀ k, k < 8 → ¬ (R 1 k ≤ 4 ∧ R 2 k ≤ if R 1 k = 0 then 0 else y) → fSd_isSound_l67 o h (jz (if s = 1 ∨ eAny (fun k => decide (R 1 k ≠ 0 ∧ R 2 k = 0)) k = true then 1 else 0), jz k) = some (.inr (.inl ())) := by
    intro k hk bad
    obtain ⟨r1, r2⟩ := c3 k hk
    have b := b5 k hk
    simp only [fSd_isSound_l67, fSd_isSound_l67_b, fSd_isSound_l67_j90, hbn]
    by_cases e4 : 4 < R 1 k
    · simp (disch := omega) only [Bool.false_eq_true, jz_lit, jz_neg, jz_nat, jz_add, jz_sub, jz_mul, jz_lt, jz_le, jz_eq, jz_ix, jin_z, jz_div, jzw, jwz, jw_lit, jw_neg, jw_add, jw_sub, jw_mul, jw_lt, jw_le, jw_eq, jw_div, Int.toNat_natCast, if_pos, if_neg, if_true, if_false, Option.bind_some, Int.natCast_add, Int.natCast_mul, Int.cast_ofNat_Int, Int.reduceToNat, Int.reduceAdd, Int.reduceMul, Int.reduceSub, Int.reduceNeg, Nat.reduceAdd, Nat.reduceMul, r1, r2]
    · by_cases e : R 1 k = 0
      · rw [if_pos e] at bad
        simp (disch := omega) only [Bool.false_eq_true, jz_lit, jz_neg, jz_nat, jz_add, jz_sub, jz_mul, jz_lt, jz_le, jz_eq, jz_ix, jin_z, jz_div, jzw, jwz, jw_lit, jw_neg, jw_add, jw_sub, jw_mul, jw_lt, jw_le, jw_eq, jw_div, Int.toNat_natCast, if_pos, if_neg, if_true, if_false, Option.bind_some, Int.natCast_add, Int.natCast_mul, Int.cast_ofNat_Int, Int.reduceToNat, Int.reduceAdd, Int.reduceMul, Int.reduceSub, Int.reduceNeg, Nat.reduceAdd, Nat.reduceMul, r1, r2]
      · rw [if_neg e] at bad
        simp (disch := omega) only [Bool.false_eq_true, jz_lit, jz_neg, jz_nat, jz_add, jz_sub, jz_mul, jz_lt, jz_le, jz_eq, jz_ix, jin_z, jz_div, jzw, jwz, jw_lit, jw_neg, jw_add, jw_sub, jw_mul, jw_lt, jw_le, jw_eq, jw_div, Int.toNat_natCast, if_pos, if_neg, if_true, if_false, Option.bind_some, Int.natCast_add, Int.natCast_mul, Int.cast_ofNat_Int, Int.reduceToNat, Int.reduceAdd, Int.reduceMul, Int.reduceSub, Int.reduceNeg, Nat.reduceAdd, Nat.reduceMul, r1, r2]
  have m0 : (jz s, jz 0) = ((jz (if s = 1 ∨ eAny (fun k => decide (R 1 k ≠ 0 ∧ R 2 k = 0)) 0 = true then 1 else 0), jz ((0 : Nat) : Int)) : Int32 × Int32) := by
    simp only [eAny, Bool.false_eq_true, or_false]
    rcases hs with rfl | rfl
    · rfl
    · rfl
  rw [m0]
  constructor
  · intro all
    refine jlim_go (fun k => (jz (if s = 1 ∨ eAny (fun k => decide (R 1 k ≠ 0 ∧ R 2 k = 0)) k = true then 1 else 0), jz k)) 8 rfl (fun i hi => st i hi (all i hi)) ?_
    simp only [fSd_isSound_l67, fSd_isSound_l67_b]
    simp (disch := omega) only [Bool.false_eq_true, jz_lit, jz_neg, jz_nat, jz_add, jz_sub, jz_mul, jz_lt, jz_le, jz_eq, jz_ix, jin_z, jz_div, jzw, jwz, jw_lit, jw_neg, jw_add, jw_sub, jw_mul, jw_lt, jw_le, jw_eq, jw_div, Int.toNat_natCast, if_pos, if_neg, if_true, if_false, Option.bind_some, Int.natCast_add, Int.natCast_mul, Int.cast_ofNat_Int, Int.reduceToNat, Int.reduceAdd, Int.reduceMul, Int.reduceSub, Int.reduceNeg, Nat.reduceAdd, Nat.reduceMul]
  · rintro ⟨k, hk, bad⟩
    refine jlim_bad (fun k => (jz (if s = 1 ∨ eAny (fun k => decide (R 1 k ≠ 0 ∧ R 2 k = 0)) k = true then 1 else 0), jz k)) (n := k) (fun i hi => ?_) (sb k hk bad)
    by_cases c : R 1 i ≤ 4 ∧ R 2 i ≤ if R 1 i = 0 then 0 else y
    · exact Or.inl (st i (by omega) c)
    · exact Or.inr (sb i (by omega) c)
theorem sSd_isSound {o : Nat} (c : cS o R h) (b : eRdB R) : (eSound R 8 → fSd_isSound o h = some (jz 1)) ∧ (¬ eSound R 8 → fSd_isSound o h = some (jz 0)) := by
  have b5 := b.2.2.2.2
  have as := sSd_asked (o := o) (h := h) (D := R 1) (fun k hk => (c.2.2 k hk).1) (fun k hk => ⟨(b5 k hk).1, by have := (b5 k hk).2.1; omega⟩)
  have L := fun (s : Int) h1 hs => sSd_sndl (s := s) c b h1 hs
  have alt := jset_lt (fun k => decide (R 1 k ≠ 0)) 8
  obtain ⟨c1, c2, c3⟩ := c
  obtain ⟨b1, b2, b3, b4, b5⟩ := b
  have none8 : jset (fun k => decide (R 1 k ≠ 0)) 8 = 0 ↔ ∀ k, k < 8 → R 1 k = 0 := by
    rw [jset_z]
    constructor
    · intro x k hk; exact Decidable.not_not.mp (of_decide_eq_false (x k hk))
    · intro x k hk; exact decide_eq_false (fun y => y (x k hk))
  have core : ∀ r : Int, (eSound R 8 → r = 1) → (¬ eSound R 8 → r = 0) → fSd_isSound o h = some (jz r) := by
    intro r y1 y2
    unfold fSd_isSound
    rw [c1, c2]
    by_cases g1 : 999 < R 0 1
    · have : ¬ eSound R 8 := fun s => by have := s.1; omega
      rw [y2 this]
      simp (disch := omega) only [Bool.false_eq_true, jz_lit, jz_neg, jz_nat, jz_add, jz_sub, jz_mul, jz_lt, jz_le, jz_eq, jz_ix, jin_z, jz_div, jzw, jwz, jw_lit, jw_neg, jw_add, jw_sub, jw_mul, jw_lt, jw_le, jw_eq, jw_div, Int.toNat_natCast, if_pos, if_neg, if_true, if_false, Option.bind_some, Int.natCast_add, Int.natCast_mul, Int.cast_ofNat_Int, Int.reduceToNat, Int.reduceAdd, Int.reduceMul, Int.reduceSub, Int.reduceNeg, Nat.reduceAdd, Nat.reduceMul]
    by_cases g2 : R 0 1 < R 0 2
    · have : ¬ eSound R 8 := fun s => by have := s.2.1; omega
      rw [y2 this]
      simp (disch := omega) only [Bool.false_eq_true, jz_lit, jz_neg, jz_nat, jz_add, jz_sub, jz_mul, jz_lt, jz_le, jz_eq, jz_ix, jin_z, jz_div, jzw, jwz, jw_lit, jw_neg, jw_add, jw_sub, jw_mul, jw_lt, jw_le, jw_eq, jw_div, Int.toNat_natCast, if_pos, if_neg, if_true, if_false, Option.bind_some, Int.natCast_add, Int.natCast_mul, Int.cast_ofNat_Int, Int.reduceToNat, Int.reduceAdd, Int.reduceMul, Int.reduceSub, Int.reduceNeg, Nat.reduceAdd, Nat.reduceMul]
    generalize jset (fun k => decide (R 1 k ≠ 0)) 8 = as0 at as alt none8
    by_cases f : R 0 2 = -1
    · by_cases a0 : as0 = 0
      · have nn := none8.mp a0
        have L1 := L 1 (by omega) (Or.inr rfl)
        by_cases all : ∀ k, k < 8 → R 1 k ≤ 4 ∧ R 2 k ≤ if R 1 k = 0 then 0 else if R 0 2 = -1 then 0 else R 0 1 - R 0 2
        · have e := L1.1 all
          rw [if_pos (Or.inl rfl)] at e
          have : eSound R 8 := ⟨by omega, by omega, ⟨fun _ => nn, fun _ => f⟩, fun k hk => ⟨(all k hk).1, fun z => by
            have := (all k hk).2
            rw [if_pos z] at this
            have := b5 k hk
            omega, fun z => absurd (nn k hk) z⟩, Or.inl f⟩
          rw [y1 this]
          unfold fSd_isSound_j34
          rw [as]
          unfold fSd_isSound_j46 fSd_isSound_j64
          rw [c2]
          simp (disch := omega) only [Bool.false_eq_true, jz_lit, jz_neg, jz_nat, jz_add, jz_sub, jz_mul, jz_lt, jz_le, jz_eq, jz_ix, jin_z, jz_div, jzw, jwz, jw_lit, jw_neg, jw_add, jw_sub, jw_mul, jw_lt, jw_le, jw_eq, jw_div, Int.toNat_natCast, if_pos, if_neg, if_true, if_false, Option.bind_some, Int.natCast_add, Int.natCast_mul, Int.cast_ofNat_Int, Int.reduceToNat, Int.reduceAdd, Int.reduceMul, Int.reduceSub, Int.reduceNeg, Nat.reduceAdd, Nat.reduceMul, f, a0, e, Sum.elim_inr, true_or, or_true]
        · have ex : ∃ k, k < 8 ∧ ¬ (R 1 k ≤ 4 ∧ R 2 k ≤ if R 1 k = 0 then 0 else if R 0 2 = -1 then 0 else R 0 1 - R 0 2) := Classical.byContradiction (fun t => all (fun k hk => Classical.byContradiction (fun u => t ⟨k, hk, u⟩)))
          have e := L1.2 ex
          have : ¬ eSound R 8 := fun s => by
            obtain ⟨k, hk, u⟩ := ex
            have := s.2.2.2.1 k hk
            rw [if_pos (nn k hk)] at u
            have z := nn k hk
            have := this.2.1 z
            omega
          rw [y2 this]
          unfold fSd_isSound_j34
          rw [as]
          unfold fSd_isSound_j46 fSd_isSound_j64
          rw [c2]
          simp (disch := omega) only [Bool.false_eq_true, jz_lit, jz_neg, jz_nat, jz_add, jz_sub, jz_mul, jz_lt, jz_le, jz_eq, jz_ix, jin_z, jz_div, jzw, jwz, jw_lit, jw_neg, jw_add, jw_sub, jw_mul, jw_lt, jw_le, jw_eq, jw_div, Int.toNat_natCast, if_pos, if_neg, if_true, if_false, Option.bind_some, Int.natCast_add, Int.natCast_mul, Int.cast_ofNat_Int, Int.reduceToNat, Int.reduceAdd, Int.reduceMul, Int.reduceSub, Int.reduceNeg, Nat.reduceAdd, Nat.reduceMul, f, a0, e, Sum.elim_inl]
      · have : ¬ eSound R 8 := fun s => a0 (none8.mpr (s.2.2.1.mp f))
        rw [y2 this]
        unfold fSd_isSound_j34
        rw [as]
        unfold fSd_isSound_j46
        simp (disch := omega) only [Bool.false_eq_true, jz_lit, jz_neg, jz_nat, jz_add, jz_sub, jz_mul, jz_lt, jz_le, jz_eq, jz_ix, jin_z, jz_div, jzw, jwz, jw_lit, jw_neg, jw_add, jw_sub, jw_mul, jw_lt, jw_le, jw_eq, jw_div, Int.toNat_natCast, if_pos, if_neg, if_true, if_false, Option.bind_some, Int.natCast_add, Int.natCast_mul, Int.cast_ofNat_Int, Int.reduceToNat, Int.reduceAdd, Int.reduceMul, Int.reduceSub, Int.reduceNeg, Nat.reduceAdd, Nat.reduceMul, f]
    · by_cases a0 : as0 = 0
      · have : ¬ eSound R 8 := fun s => f (s.2.2.1.mpr (none8.mp a0))
        rw [y2 this]
        unfold fSd_isSound_j34
        rw [as]
        unfold fSd_isSound_j46
        simp (disch := omega) only [Bool.false_eq_true, jz_lit, jz_neg, jz_nat, jz_add, jz_sub, jz_mul, jz_lt, jz_le, jz_eq, jz_ix, jin_z, jz_div, jzw, jwz, jw_lit, jw_neg, jw_add, jw_sub, jw_mul, jw_lt, jw_le, jw_eq, jw_div, Int.toNat_natCast, if_pos, if_neg, if_true, if_false, Option.bind_some, Int.natCast_add, Int.natCast_mul, Int.cast_ofNat_Int, Int.reduceToNat, Int.reduceAdd, Int.reduceMul, Int.reduceSub, Int.reduceNeg, Nat.reduceAdd, Nat.reduceMul, a0]
      · have L1 := L 0 (by omega) (Or.inl rfl)
        simp only [if_neg f] at L1
        by_cases all : ∀ k, k < 8 → R 1 k ≤ 4 ∧ R 2 k ≤ if R 1 k = 0 then 0 else R 0 1 - R 0 2
        · have e := L1.1 all
          by_cases an : eAny (fun k => decide (R 1 k ≠ 0 ∧ R 2 k = 0)) 8 = true
          · rw [if_pos (Or.inr an)] at e
            obtain ⟨k, hk, hk2⟩ := (eAny_t _ _).mp an
            have : eSound R 8 := ⟨by omega, by omega, ⟨fun z => absurd z f, fun z => absurd (none8.mpr z) a0⟩, fun k hk => ⟨(all k hk).1, fun z => by
              have := (all k hk).2
              rw [if_pos z] at this
              have := b5 k hk
              omega, fun z => by
              have := (all k hk).2
              rw [if_neg z] at this
              exact this⟩, Or.inr ⟨k, hk, of_decide_eq_true hk2⟩⟩
            rw [y1 this]
            unfold fSd_isSound_j34
            rw [as]
            unfold fSd_isSound_j46 fSd_isSound_j64
            rw [c2]
            simp (disch := omega) only [Bool.false_eq_true, jz_lit, jz_neg, jz_nat, jz_add, jz_sub, jz_mul, jz_lt, jz_le, jz_eq, jz_ix, jin_z, jz_div, jzw, jwz, jw_lit, jw_neg, jw_add, jw_sub, jw_mul, jw_lt, jw_le, jw_eq, jw_div, Int.toNat_natCast, if_pos, if_neg, if_true, if_false, Option.bind_some, Int.natCast_add, Int.natCast_mul, Int.cast_ofNat_Int, Int.reduceToNat, Int.reduceAdd, Int.reduceMul, Int.reduceSub, Int.reduceNeg, Nat.reduceAdd, Nat.reduceMul, e, Sum.elim_inr, true_or, or_true]
          · rw [if_neg (fun t => t.elim (fun z => by omega) an)] at e
            have : ¬ eSound R 8 := fun s => by
              rcases s.2.2.2.2 with z | ⟨k, hk, z⟩
              · exact f z
              · exact an ((eAny_t _ _).mpr ⟨k, hk, decide_eq_true z⟩)
            rw [y2 this]
            unfold fSd_isSound_j34
            rw [as]
            unfold fSd_isSound_j46 fSd_isSound_j64
            rw [c2]
            simp (disch := omega) only [Bool.false_eq_true, jz_lit, jz_neg, jz_nat, jz_add, jz_sub, jz_mul, jz_lt, jz_le, jz_eq, jz_ix, jin_z, jz_div, jzw, jwz, jw_lit, jw_neg, jw_add, jw_sub, jw_mul, jw_lt, jw_le, jw_eq, jw_div, Int.toNat_natCast, if_pos, if_neg, if_true, if_false, Option.bind_some, Int.natCast_add, Int.natCast_mul, Int.cast_ofNat_Int, Int.reduceToNat, Int.reduceAdd, Int.reduceMul, Int.reduceSub, Int.reduceNeg, Nat.reduceAdd, Nat.reduceMul, e, Sum.elim_inr, true_or, or_true]
        · have ex : ∃ k, k < 8 ∧ ¬ (R 1 k ≤ 4 ∧ R 2 k ≤ if R 1 k = 0 then 0 else R 0 1 - R 0 2) := Classical.byContradiction (fun t => all (fun k hk => Classical.byContradiction (fun u => t ⟨k, hk, u⟩)))
          have e := L1.2 ex
          have : ¬ eSound R 8 := fun s => by
            obtain ⟨k, hk, u⟩ := ex
            have z := s.2.2.2.1 k hk
            by_cases q : R 1 k = 0
            · rw [if_pos q] at u
              have := z.2.1 q
              omega
            · rw [if_neg q] at u
              have := z.2.2 q
              omega
          rw [y2 this]
          unfold fSd_isSound_j34
          rw [as]
          unfold fSd_isSound_j46 fSd_isSound_j64
          rw [c2]
          simp (disch := omega) only [Bool.false_eq_true, jz_lit, jz_neg, jz_nat, jz_add, jz_sub, jz_mul, jz_lt, jz_le, jz_eq, jz_ix, jin_z, jz_div, jzw, jwz, jw_lit, jw_neg, jw_add, jw_sub, jw_mul, jw_lt, jw_le, jw_eq, jw_div, Int.toNat_natCast, if_pos, if_neg, if_true, if_false, Option.bind_some, Int.natCast_add, Int.natCast_mul, Int.cast_ofNat_Int, Int.reduceToNat, Int.reduceAdd, Int.reduceMul, Int.reduceSub, Int.reduceNeg, Nat.reduceAdd, Nat.reduceMul, e, Sum.elim_inl]
  constructor
  · intro s; exact core 1 (fun _ => rfl) (fun t => absurd s t)
  · intro s; exact core 0 (fun t => absurd t s) (fun _ => rfl)
end EON
