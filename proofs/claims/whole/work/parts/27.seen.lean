/-! SEEN, SAFE -/
theorem jlim_cnt {S E X : Type} {step : S → Option (S ⊕ E)} (mk : Nat → X → S) (P : Nat → X → Prop) (Q : E → Prop) (n : Nat) : ∀ (m a : Nat), a + m = n → ∀ x, P a x → (∀ k x, a ≤ k → k < n → P k x → ∃ x', step (mk k x) = some (.inl (mk (k + 1) x')) ∧ P (k + 1) x') → (∀ x, P n x → ∃ e, step (mk n x) = some (.inr e) ∧ Q e) → ∃ e, jlim step (mk a x) = some e ∧ Q e := by
  intro m
  induction m with
  | zero =>
    intro a ha x hx _ he
    have : a = n := by omega
    subst this
    obtain ⟨e, h1, h2⟩ := he x hx
    exact ⟨e, by rw [jlim_eq, h1], h2⟩
  | succ m ih =>
    intro a ha x hx hs he
    obtain ⟨x', h1, h2⟩ := hs a x (Nat.le_refl _) (by omega) hx
    obtain ⟨e, h3, h4⟩ := ih (a + 1) (by omega) x' h2 (fun k x hk1 hk2 => hs k x (by omega) hk2) he
    exact ⟨e, by rw [jlim_eq, h1]; exact h3, h4⟩
def eN (f : Nat → Bool) : Nat → Nat
  | 0 => 0
  | n + 1 => if f n then eN f n + 1 else eN f n
def eAl (f : Nat → Bool) (t : Nat) : Nat → Nat
  | 0 => t
  | n + 1 => if f n then eAl f t n &&& n else eAl f t n
def eOr (f : Nat → Bool) : Nat → Nat
  | 0 => 0
  | n + 1 => if f n then eOr f n ||| n else eOr f n
theorem eN_le (f : Nat → Bool) : ∀ n, eN f n ≤ n := by
  intro n
  induction n with
  | zero => exact Nat.le_refl _
  | succ n ih => unfold eN; split <;> omega
def eSeen (D : jD) (g : Nat) (a c : Int) (s : Nat) : Bool := decide (eOver (D 5) s g = a) && decide (eOver (D 4) s g = c)
section ESE
variable {p g : Nat} {D S : jD} {h : jH}
theorem sPn_isSeen {a c : Int} {s : Nat} (b : bV g D) (v : cV p g D h) (hp : jcl 176 p = 10) (hs : s < 256) (ha : 0 ≤ a ∧ a ≤ 1000) (hc : 0 ≤ c ∧ c ≤ 1000) : fPn_isSeen p (jz s) (jz a) (jz c) h = some (if eSeen D g a c s then jz 1 else jz 0) := by
  have c5 := v.2.2.2.1
  have h1 := sPn_sumOver (v := p + 4) (f := D 5) b v (jnm_10_13 hp) (fun k hk => (c5 k hk).2.2.1) hs
  have h2 := sPn_sumOver (v := p + 3) (f := D 4) b v (jnm_10_12 hp) (fun k hk => (c5 k hk).2.1) hs
  have b1 := eOver5_b (s := s) b
  have b2 := eOver4_b (s := s) b
  unfold fPn_isSeen eSeen
  rw [h1, h2]
  by_cases e1 : eOver (D 5) s g = a
  · by_cases e2 : eOver (D 4) s g = c
    · simp (disch := omega) only [Bool.false_eq_true, jz_lit, jz_neg, jz_nat, jz_add, jz_sub, jz_mul, jz_lt, jz_le, jz_eq, jz_ix, jin_z, jz_div, jzw, jwz, jw_lit, jw_neg, jw_add, jw_sub, jw_mul, jw_lt, jw_le, jw_eq, jw_div, Int.toNat_natCast, if_pos, if_neg, if_true, if_false, Option.bind_some, Int.natCast_add, Int.natCast_mul, Int.cast_ofNat_Int, Int.reduceToNat, Int.reduceAdd, Int.reduceMul, Int.reduceSub, Int.reduceNeg, Nat.reduceAdd, Nat.reduceMul, e1, e2, decide_true, Bool.and_self]
    · simp (disch := omega) only [Bool.false_eq_true, jz_lit, jz_neg, jz_nat, jz_add, jz_sub, jz_mul, jz_lt, jz_le, jz_eq, jz_ix, jin_z, jz_div, jzw, jwz, jw_lit, jw_neg, jw_add, jw_sub, jw_mul, jw_lt, jw_le, jw_eq, jw_div, Int.toNat_natCast, if_pos, if_neg, if_true, if_false, Option.bind_some, Int.natCast_add, Int.natCast_mul, Int.cast_ofNat_Int, Int.reduceToNat, Int.reduceAdd, Int.reduceMul, Int.reduceSub, Int.reduceNeg, Nat.reduceAdd, Nat.reduceMul, e1, e2, decide_true, decide_false, Bool.and_false, Bool.false_eq_true]
  · simp (disch := omega) only [Bool.false_eq_true, jz_lit, jz_neg, jz_nat, jz_add, jz_sub, jz_mul, jz_lt, jz_le, jz_eq, jz_ix, jin_z, jz_div, jzw, jwz, jw_lit, jw_neg, jw_add, jw_sub, jw_mul, jw_lt, jw_le, jw_eq, jw_div, Int.toNat_natCast, if_pos, if_neg, if_true, if_false, Option.bind_some, Int.natCast_add, Int.natCast_mul, Int.cast_ofNat_Int, Int.reduceToNat, Int.reduceAdd, Int.reduceMul, Int.reduceSub, Int.reduceNeg, Nat.reduceAdd, Nat.reduceMul, e1, decide_false, Bool.false_and, Bool.false_eq_true]
theorem sPn_seenCount {a c : Int} (b : bV g D) (v : cV p g D h) (hp : jcl 176 p = 10) (ha : 0 ≤ a ∧ a ≤ 1000) (hc : 0 ≤ c ∧ c ≤ 1000) : fPn_seenCount p (jz a) (jz c) h = some (jz (eN (eSeen D g a c) (2 ^ g))) := by
  have hN := two8 b.1
  unfold fPn_seenCount
  have hl : jlim (fPn_seenCount_l5 p (jz a) (jz c) h) (0, 0) = some (jz (eN (eSeen D g a c) (2 ^ g))) := by
    have hA := sPn_allSets b v
    generalize 2 ^ g = N at *
    refine jlim_go (fun k => (jz (eN (eSeen D g a c) k), jz k)) N rfl (fun i hi => ?_) ?_
    · simp only [fPn_seenCount_l5, fPn_seenCount_l5_b, fPn_seenCount_l5_j28, hA, eN]
      cases ht : eSeen D g a c i with
      | true => simp (disch := omega) only [Bool.false_eq_true, jz_lit, jz_neg, jz_nat, jz_add, jz_sub, jz_mul, jz_lt, jz_le, jz_eq, jz_ix, jin_z, jz_div, jzw, jwz, jw_lit, jw_neg, jw_add, jw_sub, jw_mul, jw_lt, jw_le, jw_eq, jw_div, Int.toNat_natCast, if_pos, if_neg, if_true, if_false, Option.bind_some, Int.natCast_add, Int.natCast_mul, Int.cast_ofNat_Int, Int.reduceToNat, Int.reduceAdd, Int.reduceMul, Int.reduceSub, Int.reduceNeg, Nat.reduceAdd, Nat.reduceMul, sPn_isSeen b v hp (show i < 256 by omega) ha hc, ht]
      | false => simp (disch := omega) only [Bool.false_eq_true, jz_lit, jz_neg, jz_nat, jz_add, jz_sub, jz_mul, jz_lt, jz_le, jz_eq, jz_ix, jin_z, jz_div, jzw, jwz, jw_lit, jw_neg, jw_add, jw_sub, jw_mul, jw_lt, jw_le, jw_eq, jw_div, Int.toNat_natCast, if_pos, if_neg, if_true, if_false, Option.bind_some, Int.natCast_add, Int.natCast_mul, Int.cast_ofNat_Int, Int.reduceToNat, Int.reduceAdd, Int.reduceMul, Int.reduceSub, Int.reduceNeg, Nat.reduceAdd, Nat.reduceMul, sPn_isSeen b v hp (show i < 256 by omega) ha hc, ht, Bool.false_eq_true]
    · simp only [fPn_seenCount_l5, fPn_seenCount_l5_b, hA]
      simp (disch := omega) only [Bool.false_eq_true, jz_lit, jz_neg, jz_nat, jz_add, jz_sub, jz_mul, jz_lt, jz_le, jz_eq, jz_ix, jin_z, jz_div, jzw, jwz, jw_lit, jw_neg, jw_add, jw_sub, jw_mul, jw_lt, jw_le, jw_eq, jw_div, Int.toNat_natCast, if_pos, if_neg, if_true, if_false, Option.bind_some, Int.natCast_add, Int.natCast_mul, Int.cast_ofNat_Int, Int.reduceToNat, Int.reduceAdd, Int.reduceMul, Int.reduceSub, Int.reduceNeg, Nat.reduceAdd, Nat.reduceMul]
  rw [hl]
  rfl
theorem sPn_seenInSome {a c : Int} (b : bV g D) (v : cV p g D h) (hp : jcl 176 p = 10) (ha : 0 ≤ a ∧ a ≤ 1000) (hc : 0 ≤ c ∧ c ≤ 1000) : fPn_seenInSome p (jz a) (jz c) h = some (jz (eOr (eSeen D g a c) (2 ^ g))) := by
  have hN := two8 b.1
  unfold fPn_seenInSome
  have hl : jlim (fPn_seenInSome_l5 p (jz a) (jz c) h) (0, 0) = some (jz (eOr (eSeen D g a c) (2 ^ g))) := by
    have hA := sPn_allSets b v
    generalize 2 ^ g = N at *
    refine jlim_go (fun k => (jz (eOr (eSeen D g a c) k), jz k)) N rfl (fun i hi => ?_) ?_
    · simp only [fPn_seenInSome_l5, fPn_seenInSome_l5_b, fPn_seenInSome_l5_j30, hA, eOr]
      cases ht : eSeen D g a c i with
      | true => simp (disch := omega) only [Bool.false_eq_true, jz_lit, jz_neg, jz_nat, jz_add, jz_sub, jz_mul, jz_lt, jz_le, jz_eq, jz_ix, jin_z, jz_div, jzw, jwz, jw_lit, jw_neg, jw_add, jw_sub, jw_mul, jw_lt, jw_le, jw_eq, jw_div, Int.toNat_natCast, if_pos, if_neg, if_true, if_false, Option.bind_some, Int.natCast_add, Int.natCast_mul, Int.cast_ofNat_Int, Int.reduceToNat, Int.reduceAdd, Int.reduceMul, Int.reduceSub, Int.reduceNeg, Nat.reduceAdd, Nat.reduceMul, sPn_isSeen b v hp (show i < 256 by omega) ha hc, ht, jbit_or]
      | false => simp (disch := omega) only [Bool.false_eq_true, jz_lit, jz_neg, jz_nat, jz_add, jz_sub, jz_mul, jz_lt, jz_le, jz_eq, jz_ix, jin_z, jz_div, jzw, jwz, jw_lit, jw_neg, jw_add, jw_sub, jw_mul, jw_lt, jw_le, jw_eq, jw_div, Int.toNat_natCast, if_pos, if_neg, if_true, if_false, Option.bind_some, Int.natCast_add, Int.natCast_mul, Int.cast_ofNat_Int, Int.reduceToNat, Int.reduceAdd, Int.reduceMul, Int.reduceSub, Int.reduceNeg, Nat.reduceAdd, Nat.reduceMul, sPn_isSeen b v hp (show i < 256 by omega) ha hc, ht, Bool.false_eq_true]
    · simp only [fPn_seenInSome_l5, fPn_seenInSome_l5_b, hA]
      simp (disch := omega) only [Bool.false_eq_true, jz_lit, jz_neg, jz_nat, jz_add, jz_sub, jz_mul, jz_lt, jz_le, jz_eq, jz_ix, jin_z, jz_div, jzw, jwz, jw_lit, jw_neg, jw_add, jw_sub, jw_mul, jw_lt, jw_le, jw_eq, jw_div, Int.toNat_natCast, if_pos, if_neg, if_true, if_false, Option.bind_some, Int.natCast_add, Int.natCast_mul, Int.cast_ofNat_Int, Int.reduceToNat, Int.reduceAdd, Int.reduceMul, Int.reduceSub, Int.reduceNeg, Nat.reduceAdd, Nat.reduceMul]
  rw [hl]
  rfl
theorem sPn_seenInAll {a c : Int} (b : bV g D) (v : cV p g D h) (hp : jcl 176 p = 10) (ha : 0 ≤ a ∧ a ≤ 1000) (hc : 0 ≤ c ∧ c ≤ 1000) : fPn_seenInAll p (jz a) (jz c) h = some (if eN (eSeen D g a c) (2 ^ g) = 0 then jz 0 else jz (eAl (eSeen D g a c) (2 ^ g - 1) (2 ^ g))) := by
  have hN := two8 b.1
  have hN1 : 1 ≤ 2 ^ g := Nat.one_le_two_pow
  unfold fPn_seenInAll
  have hl : jlim (fPn_seenInAll_l13 p (jz a) (jz c) h) (fPn_allSets p h - 1, 0, 0) = some (jz (eAl (eSeen D g a c) (2 ^ g - 1) (2 ^ g)), if eN (eSeen D g a c) (2 ^ g) = 0 then jz 0 else jz 1) := by
    have hA := sPn_allSets b v
    rw [hA]
    generalize 2 ^ g = N at *
    refine jlim_go (fun k => (jz (eAl (eSeen D g a c) (N - 1) k), (if eN (eSeen D g a c) k = 0 then jz 0 else jz 1), jz k)) N ?_ (fun i hi => ?_) ?_
    · simp (disch := omega) only [Bool.false_eq_true, jz_lit, jz_neg, jz_nat, jz_add, jz_sub, jz_mul, jz_lt, jz_le, jz_eq, jz_ix, jin_z, jz_div, jzw, jwz, jw_lit, jw_neg, jw_add, jw_sub, jw_mul, jw_lt, jw_le, jw_eq, jw_div, Int.toNat_natCast, if_pos, if_neg, if_true, if_false, Option.bind_some, Int.natCast_add, Int.natCast_mul, Int.cast_ofNat_Int, Int.reduceToNat, Int.reduceAdd, Int.reduceMul, Int.reduceSub, Int.reduceNeg, Nat.reduceAdd, Nat.reduceMul, eAl, eN]
      rw [show ((N - 1 : Nat) : Int) = (N : Int) - 1 by omega]
    · simp only [fPn_seenInAll_l13, fPn_seenInAll_l13_b, fPn_seenInAll_l13_j41, hA, eAl, eN]
      by_cases ht : eSeen D g a c i = true
      · simp (disch := omega) only [Bool.false_eq_true, jz_lit, jz_neg, jz_nat, jz_add, jz_sub, jz_mul, jz_lt, jz_le, jz_eq, jz_ix, jin_z, jz_div, jzw, jwz, jw_lit, jw_neg, jw_add, jw_sub, jw_mul, jw_lt, jw_le, jw_eq, jw_div, Int.toNat_natCast, if_pos, if_neg, if_true, if_false, Option.bind_some, Int.natCast_add, Int.natCast_mul, Int.cast_ofNat_Int, Int.reduceToNat, Int.reduceAdd, Int.reduceMul, Int.reduceSub, Int.reduceNeg, Nat.reduceAdd, Nat.reduceMul, sPn_isSeen b v hp (show i < 256 by omega) ha hc, ht, jbit_and, Nat.succ_ne_zero]
      · simp (disch := omega) only [Bool.false_eq_true, jz_lit, jz_neg, jz_nat, jz_add, jz_sub, jz_mul, jz_lt, jz_le, jz_eq, jz_ix, jin_z, jz_div, jzw, jwz, jw_lit, jw_neg, jw_add, jw_sub, jw_mul, jw_lt, jw_le, jw_eq, jw_div, Int.toNat_natCast, if_pos, if_neg, if_true, if_false, Option.bind_some, Int.natCast_add, Int.natCast_mul, Int.cast_ofNat_Int, Int.reduceToNat, Int.reduceAdd, Int.reduceMul, Int.reduceSub, Int.reduceNeg, Nat.reduceAdd, Nat.reduceMul, sPn_isSeen b v hp (show i < 256 by omega) ha hc, ht]
    · simp only [fPn_seenInAll_l13, fPn_seenInAll_l13_b, hA]
      simp (disch := omega) only [Bool.false_eq_true, jz_lit, jz_neg, jz_nat, jz_add, jz_sub, jz_mul, jz_lt, jz_le, jz_eq, jz_ix, jin_z, jz_div, jzw, jwz, jw_lit, jw_neg, jw_add, jw_sub, jw_mul, jw_lt, jw_le, jw_eq, jw_div, Int.toNat_natCast, if_pos, if_neg, if_true, if_false, Option.bind_some, Int.natCast_add, Int.natCast_mul, Int.cast_ofNat_Int, Int.reduceToNat, Int.reduceAdd, Int.reduceMul, Int.reduceSub, Int.reduceNeg, Nat.reduceAdd, Nat.reduceMul]
  rw [hl]
  by_cases e : eN (eSeen D g a c) (2 ^ g) = 0
  · simp (disch := omega) only [Bool.false_eq_true, jz_lit, jz_neg, jz_nat, jz_add, jz_sub, jz_mul, jz_lt, jz_le, jz_eq, jz_ix, jin_z, jz_div, jzw, jwz, jw_lit, jw_neg, jw_add, jw_sub, jw_mul, jw_lt, jw_le, jw_eq, jw_div, Int.toNat_natCast, if_pos, if_neg, if_true, if_false, Option.bind_some, Int.natCast_add, Int.natCast_mul, Int.cast_ofNat_Int, Int.reduceToNat, Int.reduceAdd, Int.reduceMul, Int.reduceSub, Int.reduceNeg, Nat.reduceAdd, Nat.reduceMul, e]
  · simp (disch := omega) only [Bool.false_eq_true, jz_lit, jz_neg, jz_nat, jz_add, jz_sub, jz_mul, jz_lt, jz_le, jz_eq, jz_ix, jin_z, jz_div, jzw, jwz, jw_lit, jw_neg, jw_add, jw_sub, jw_mul, jw_lt, jw_le, jw_eq, jw_div, Int.toNat_natCast, if_pos, if_neg, if_true, if_false, Option.bind_some, Int.natCast_add, Int.natCast_mul, Int.cast_ofNat_Int, Int.reduceToNat, Int.reduceAdd, Int.reduceMul, Int.reduceSub, Int.reduceNeg, Nat.reduceAdd, Nat.reduceMul, e]
theorem sM_seenloop {a c : Int} (b : bV g D) (m : mV g D h) (ha : 0 ≤ a ∧ a ≤ 1000) (hc : 0 ≤ c ∧ c ≤ 1000) (w : Int32) : jlim (fM_seen_l60 (jz a) (jz c) w h) (0, jz (((2 ^ g : Nat) : Int) - 1), 0, 0) = some (jz (eN (eSeen D g a c) (2 ^ g)), jz (eAl (eSeen D g a c) (2 ^ g - 1) (2 ^ g)), jz (eOr (eSeen D g a c) (2 ^ g))) := by
  have hN := two8 b.1
  have hN1 : 1 ≤ 2 ^ g := Nat.one_le_two_pow
  have hA := sM_allGuests b m
  generalize 2 ^ g = N at *
  refine jlim_go (fun k => (jz (eN (eSeen D g a c) k), jz (eAl (eSeen D g a c) (N - 1) k), jz (eOr (eSeen D g a c) k), jz k)) N ?_ (fun i hi => ?_) ?_
  · show (0, jz ((N : Int) - 1), 0, 0) = (jz ((0 : Nat) : Int), jz ((N - 1 : Nat) : Int), jz ((0 : Nat) : Int), jz ((0 : Nat) : Int))
    rw [show ((N - 1 : Nat) : Int) = (N : Int) - 1 by omega]
    rfl
  · have b1 := eOver5_b (s := i) b
    have b2 := eOver4_b (s := i) b
    have hb : eSeen D g a c i = (decide (eOver (D 5) i g = a) && decide (eOver (D 4) i g = c)) := rfl
    simp only [fM_seen_l60, fM_seen_l60_b, fM_seen_l60_j109, hA, eAl, eN, eOr, hb]
    by_cases e1 : eOver (D 5) i g = a
    · by_cases e2 : eOver (D 4) i g = c
      · simp (disch := omega) only [Bool.false_eq_true, jz_lit, jz_neg, jz_nat, jz_add, jz_sub, jz_mul, jz_lt, jz_le, jz_eq, jz_ix, jin_z, jz_div, jzw, jwz, jw_lit, jw_neg, jw_add, jw_sub, jw_mul, jw_lt, jw_le, jw_eq, jw_div, Int.toNat_natCast, if_pos, if_neg, if_true, if_false, Option.bind_some, Int.natCast_add, Int.natCast_mul, Int.cast_ofNat_Int, Int.reduceToNat, Int.reduceAdd, Int.reduceMul, Int.reduceSub, Int.reduceNeg, Nat.reduceAdd, Nat.reduceMul, sM_sizeBy b m (show i < 256 by omega), sM_joyBy b m (show i < 256 by omega), e1, e2, decide_true, Bool.and_self, jbit_and, jbit_or]
      · simp (disch := omega) only [Bool.false_eq_true, jz_lit, jz_neg, jz_nat, jz_add, jz_sub, jz_mul, jz_lt, jz_le, jz_eq, jz_ix, jin_z, jz_div, jzw, jwz, jw_lit, jw_neg, jw_add, jw_sub, jw_mul, jw_lt, jw_le, jw_eq, jw_div, Int.toNat_natCast, if_pos, if_neg, if_true, if_false, Option.bind_some, Int.natCast_add, Int.natCast_mul, Int.cast_ofNat_Int, Int.reduceToNat, Int.reduceAdd, Int.reduceMul, Int.reduceSub, Int.reduceNeg, Nat.reduceAdd, Nat.reduceMul, sM_sizeBy b m (show i < 256 by omega), sM_joyBy b m (show i < 256 by omega), e1, e2, decide_true, decide_false, Bool.and_false, Bool.false_eq_true]
    · simp (disch := omega) only [Bool.false_eq_true, jz_lit, jz_neg, jz_nat, jz_add, jz_sub, jz_mul, jz_lt, jz_le, jz_eq, jz_ix, jin_z, jz_div, jzw, jwz, jw_lit, jw_neg, jw_add, jw_sub, jw_mul, jw_lt, jw_le, jw_eq, jw_div, Int.toNat_natCast, if_pos, if_neg, if_true, if_false, Option.bind_some, Int.natCast_add, Int.natCast_mul, Int.cast_ofNat_Int, Int.reduceToNat, Int.reduceAdd, Int.reduceMul, Int.reduceSub, Int.reduceNeg, Nat.reduceAdd, Nat.reduceMul, sM_sizeBy b m (show i < 256 by omega), e1, decide_false, Bool.false_and, Bool.false_eq_true]
  · simp only [fM_seen_l60, fM_seen_l60_b, hA]
    simp (disch := omega) only [Bool.false_eq_true, jz_lit, jz_neg, jz_nat, jz_add, jz_sub, jz_mul, jz_lt, jz_le, jz_eq, jz_ix, jin_z, jz_div, jzw, jwz, jw_lit, jw_neg, jw_add, jw_sub, jw_mul, jw_lt, jw_le, jw_eq, jw_div, Int.toNat_natCast, if_pos, if_neg, if_true, if_false, Option.bind_some, Int.natCast_add, Int.natCast_mul, Int.cast_ofNat_Int, Int.reduceToNat, Int.reduceAdd, Int.reduceMul, Int.reduceSub, Int.reduceNeg, Nat.reduceAdd, Nat.reduceMul]
/-- the safe set, of those below n -/
def eSafe (D : jD) (g : Nat) : Nat → Nat
  | 0 => 0
  | n + 1 => if (eWhole D g n 0 = true ∧ eOver (D 5) n g ≤ D 0 3) ∧ (eSum (eSli D n) g < eSum (eSli D (eSafe D g n)) g ∨ eSum (eSli D n) g = eSum (eSli D (eSafe D g n)) g ∧ eOver (D 4) (eSafe D g n) g < eOver (D 4) n g) then n else eSafe D g n
theorem eSafe_1 : eSafe D g 1 = 0 := by
  unfold eSafe
  split <;> rfl
theorem eSafe_lt {n : Nat} : eSafe D g n ≤ n := by
  induction n with
  | zero => exact Nat.le_refl _
  | succ n ih => unfold eSafe; split <;> omega
theorem eOver_0 {f : Nat → Int} {n : Nat} : eOver f 0 n = 0 := by
  unfold eOver
  induction n with
  | zero => rfl
  | succ n ih => unfold eSum; rw [ih]; simp
theorem eSli_0 {n : Nat} : eSum (eSli D 0) n = 0 := by
  induction n with
  | zero => rfl
  | succ n ih => unfold eSum; rw [ih]; simp [eSli]
theorem sCh_findSafe (b : bV g D) (v : cV p g D h) (hpd : p = 84 ∨ p = 98) (hp : jcl 176 p = 10) : ∃ h', fCh_findSafe p h = some h' ∧ eFr (fun o _ => o = 96) h h' ∧ h'.1 96 2 = jz (eSafe D g (2 ^ g)) ∧ h'.1 96 3 = jz (eSum (eSli D (eSafe D g (2 ^ g))) g) ∧ h'.1 96 4 = jz (eOver (D 4) (eSafe D g (2 ^ g)) g) := by
  have hN := two8 b.1
  have hN1 : 1 ≤ 2 ^ g := Nat.one_le_two_pow
  unfold fCh_findSafe
  have hl := jlim_cnt (step := fCh_findSafe_l25 p) (fun k (x : jH) => (jz k, x)) (fun k x => eFr (fun o _ => o = 96) h x ∧ x.1 96 2 = jz (eSafe D g k) ∧ x.1 96 3 = jz (eSum (eSli D (eSafe D g k)) g) ∧ x.1 96 4 = jz (eOver (D 4) (eSafe D g k) g)) (fun x => eFr (fun o _ => o = 96) h x ∧ x.1 96 2 = jz (eSafe D g (2 ^ g)) ∧ x.1 96 3 = jz (eSum (eSli D (eSafe D g (2 ^ g))) g) ∧ x.1 96 4 = jz (eOver (D 4) (eSafe D g (2 ^ g)) g)) (2 ^ g) (2 ^ g - 1) 1 (by omega) (jhI (jhI (jhI h 96 2 0) 96 3 0) 96 4 0) ?_ ?_ ?_
  · obtain ⟨x, h1, h2⟩ := hl
    refine ⟨x, ?_, h2⟩
    rw [show (1 : Int32) = jz ((1 : Nat) : Int) from rfl, h1]
    rfl
  · refine ⟨eFr_I (S := fun o _ => o = 96) (eFr_I (S := fun o _ => o = 96) (eFr_I (S := fun o _ => o = 96) (eFr_refl _ h) rfl _) rfl _) rfl _, ?_, ?_, ?_⟩
    · rw [eSafe_1]; rfl
    · rw [eSafe_1, eSli_0]; rfl
    · rw [eSafe_1, eOver_0]; rfl
  · rintro k x hk1 hk2 ⟨q1, q2, q3, q4⟩
    have v2 : cV p g D x := cV_fr (fun o k hk => q1.1 o k (by omega)) v
    have c5 := v2.2.2.2.1
    have hA := sPn_allSets b v2
    have w1 := sPy_isWhole (s := k) (a := 0) b v2 (by omega) (by omega)
    have w2 := sPn_sumOver (v := p + 4) (s := k) (f := D 5) b v2 (jnm_10_13 hp) (fun k hk => (c5 k hk).2.2.1) (by omega)
    have w3 := sPn_sumOver (v := p + 3) (s := k) (f := D 4) b v2 (jnm_10_12 hp) (fun k hk => (c5 k hk).2.1) (by omega)
    have w4 := sCh_slightsBy (s := k) b v2 (by omega)
    have b1 := eOver5_b (s := k) b
    have b2 := eOver4_b (s := k) b
    have b3 := eSliS_b (s := k) b
    have b4 := eSliS_b (s := eSafe D g k) b
    have b5 := eOver4_b (s := eSafe D g k) b
    have b6 := b.2.1
    have w0 := v2.2.1.1
    rw [show jz ((0 : Nat) : Int) = jz 0 from rfl] at w1
    have es : eSafe D g (k + 1) = if (eWhole D g k 0 = true ∧ eOver (D 5) k g ≤ D 0 3) ∧ (eSum (eSli D k) g < eSum (eSli D (eSafe D g k)) g ∨ eSum (eSli D k) g = eSum (eSli D (eSafe D g k)) g ∧ eOver (D 4) (eSafe D g k) g < eOver (D 4) k g) then k else eSafe D g k := rfl
    have keep : eSafe D g (k + 1) = eSafe D g k → eFr (fun o _ => o = 96) h x ∧ x.1 96 2 = jz (eSafe D g (k + 1)) ∧ x.1 96 3 = jz (eSum (eSli D (eSafe D g (k + 1))) g) ∧ x.1 96 4 = jz (eOver (D 4) (eSafe D g (k + 1)) g) := fun e => by rw [e]; exact ⟨q1, q2, q3, q4⟩
    have new : eSafe D g (k + 1) = k → eFr (fun o _ => o = 96) h (jhI (jhI (jhI x 96 2 (jz k)) 96 3 (jz (eSum (eSli D k) g))) 96 4 (jz (eOver (D 4) k g))) ∧ (jhI (jhI (jhI x 96 2 (jz k)) 96 3 (jz (eSum (eSli D k) g))) 96 4 (jz (eOver (D 4) k g))).1 96 2 = jz (eSafe D g (k + 1)) ∧ (jhI (jhI (jhI x 96 2 (jz k)) 96 3 (jz (eSum (eSli D k) g))) 96 4 (jz (eOver (D 4) k g))).1 96 3 = jz (eSum (eSli D (eSafe D g (k + 1))) g) ∧ (jhI (jhI (jhI x 96 2 (jz k)) 96 3 (jz (eSum (eSli D k) g))) 96 4 (jz (eOver (D 4) k g))).1 96 4 = jz (eOver (D 4) (eSafe D g (k + 1)) g) := fun e => by
      rw [e]
      exact ⟨eFr_I (eFr_I (eFr_I q1 rfl _) rfl _) rfl _, rfl, rfl, rfl⟩
    simp only [fCh_findSafe_l25, fCh_findSafe_l25_b, fCh_findSafe_l25_j119, fCh_findSafe_l25_j103, hA, w0, q3, q4]
    generalize 2 ^ g = N at *
    by_cases g1 : eWhole D g k 0 = true
    · by_cases g2 : eOver (D 5) k g ≤ D 0 3
      · by_cases g3 : eSum (eSli D k) g < eSum (eSli D (eSafe D g k)) g
        · refine ⟨_, ?_, new (by rw [es, if_pos ⟨⟨g1, g2⟩, Or.inl g3⟩])⟩
          simp (disch := omega) only [Bool.false_eq_true, jz_lit, jz_neg, jz_nat, jz_add, jz_sub, jz_mul, jz_lt, jz_le, jz_eq, jz_ix, jin_z, jz_div, jzw, jwz, jw_lit, jw_neg, jw_add, jw_sub, jw_mul, jw_lt, jw_le, jw_eq, jw_div, Int.toNat_natCast, if_pos, if_neg, if_true, if_false, Option.bind_some, Int.natCast_add, Int.natCast_mul, Int.cast_ofNat_Int, Int.reduceToNat, Int.reduceAdd, Int.reduceMul, Int.reduceSub, Int.reduceNeg, Nat.reduceAdd, Nat.reduceMul, w1, w2, w3, w4, g1]
        · by_cases g4 : eSum (eSli D k) g = eSum (eSli D (eSafe D g k)) g
          · by_cases g5 : eOver (D 4) (eSafe D g k) g < eOver (D 4) k g
            · refine ⟨_, ?_, new (by rw [es, if_pos ⟨⟨g1, g2⟩, Or.inr ⟨g4, g5⟩⟩])⟩
              simp (disch := omega) only [Bool.false_eq_true, jz_lit, jz_neg, jz_nat, jz_add, jz_sub, jz_mul, jz_lt, jz_le, jz_eq, jz_ix, jin_z, jz_div, jzw, jwz, jw_lit, jw_neg, jw_add, jw_sub, jw_mul, jw_lt, jw_le, jw_eq, jw_div, Int.toNat_natCast, if_pos, if_neg, if_true, if_false, Option.bind_some, Int.natCast_add, Int.natCast_mul, Int.cast_ofNat_Int, Int.reduceToNat, Int.reduceAdd, Int.reduceMul, Int.reduceSub, Int.reduceNeg, Nat.reduceAdd, Nat.reduceMul, w1, w2, w3, w4, g1]
            · refine ⟨_, ?_, keep (by rw [es, if_neg (by omega)])⟩
              simp (disch := omega) only [Bool.false_eq_true, jz_lit, jz_neg, jz_nat, jz_add, jz_sub, jz_mul, jz_lt, jz_le, jz_eq, jz_ix, jin_z, jz_div, jzw, jwz, jw_lit, jw_neg, jw_add, jw_sub, jw_mul, jw_lt, jw_le, jw_eq, jw_div, Int.toNat_natCast, if_pos, if_neg, if_true, if_false, Option.bind_some, Int.natCast_add, Int.natCast_mul, Int.cast_ofNat_Int, Int.reduceToNat, Int.reduceAdd, Int.reduceMul, Int.reduceSub, Int.reduceNeg, Nat.reduceAdd, Nat.reduceMul, w1, w2, w3, w4, g1]
          · refine ⟨_, ?_, keep (by rw [es, if_neg (by omega)])⟩
            simp (disch := omega) only [Bool.false_eq_true, jz_lit, jz_neg, jz_nat, jz_add, jz_sub, jz_mul, jz_lt, jz_le, jz_eq, jz_ix, jin_z, jz_div, jzw, jwz, jw_lit, jw_neg, jw_add, jw_sub, jw_mul, jw_lt, jw_le, jw_eq, jw_div, Int.toNat_natCast, if_pos, if_neg, if_true, if_false, Option.bind_some, Int.natCast_add, Int.natCast_mul, Int.cast_ofNat_Int, Int.reduceToNat, Int.reduceAdd, Int.reduceMul, Int.reduceSub, Int.reduceNeg, Nat.reduceAdd, Nat.reduceMul, w1, w2, w3, w4, g1]
      · refine ⟨_, ?_, keep (by rw [es, if_neg (by omega)])⟩
        simp (disch := omega) only [Bool.false_eq_true, jz_lit, jz_neg, jz_nat, jz_add, jz_sub, jz_mul, jz_lt, jz_le, jz_eq, jz_ix, jin_z, jz_div, jzw, jwz, jw_lit, jw_neg, jw_add, jw_sub, jw_mul, jw_lt, jw_le, jw_eq, jw_div, Int.toNat_natCast, if_pos, if_neg, if_true, if_false, Option.bind_some, Int.natCast_add, Int.natCast_mul, Int.cast_ofNat_Int, Int.reduceToNat, Int.reduceAdd, Int.reduceMul, Int.reduceSub, Int.reduceNeg, Nat.reduceAdd, Nat.reduceMul, w1, w2, g1]
    · refine ⟨_, ?_, keep (by rw [es, if_neg (fun h => g1 h.1.1)])⟩
      simp (disch := omega) only [Bool.false_eq_true, jz_lit, jz_neg, jz_nat, jz_add, jz_sub, jz_mul, jz_lt, jz_le, jz_eq, jz_ix, jin_z, jz_div, jzw, jwz, jw_lit, jw_neg, jw_add, jw_sub, jw_mul, jw_lt, jw_le, jw_eq, jw_div, Int.toNat_natCast, if_pos, if_neg, if_true, if_false, Option.bind_some, Int.natCast_add, Int.natCast_mul, Int.cast_ofNat_Int, Int.reduceToNat, Int.reduceAdd, Int.reduceMul, Int.reduceSub, Int.reduceNeg, Nat.reduceAdd, Nat.reduceMul, w1, g1]
  · rintro x ⟨q1, q2, q3, q4⟩
    have v2 : cV p g D x := cV_fr (fun o k hk => q1.1 o k (by omega)) v
    have hA := sPn_allSets b v2
    refine ⟨x, ?_, q1, q2, q3, q4⟩
    simp only [fCh_findSafe_l25, fCh_findSafe_l25_b, hA]
    generalize 2 ^ g = N at *
    simp (disch := omega) only [Bool.false_eq_true, jz_lit, jz_neg, jz_nat, jz_add, jz_sub, jz_mul, jz_lt, jz_le, jz_eq, jz_ix, jin_z, jz_div, jzw, jwz, jw_lit, jw_neg, jw_add, jw_sub, jw_mul, jw_lt, jw_le, jw_eq, jw_div, Int.toNat_natCast, if_pos, if_neg, if_true, if_false, Option.bind_some, Int.natCast_add, Int.natCast_mul, Int.cast_ofNat_Int, Int.reduceToNat, Int.reduceAdd, Int.reduceMul, Int.reduceSub, Int.reduceNeg, Nat.reduceAdd, Nat.reduceMul]
theorem sM_safeloop (b : bV g D) (m : mV g D h) (w : Int32) : jlim (fM_safe_l25 w h) (0, 1) = some (jz (eSafe D g (2 ^ g))) := by
  have hN := two8 b.1
  have hN1 : 1 ≤ 2 ^ g := Nat.one_le_two_pow
  have hA := sM_allGuests b m
  have hall : jlim (fM_safe_l25 w h) ((fun k => (jz (eSafe D g (k + 1)), jz ((k + 1 : Nat) : Int))) 0) = some (jz (eSafe D g (2 ^ g))) := by
    refine jlim_go (fun k => (jz (eSafe D g (k + 1)), jz ((k + 1 : Nat) : Int))) (2 ^ g - 1) rfl (fun i hi => ?_) ?_
    · have hi1 : i + 1 < 256 := by omega
      have w1 := sM_isWhole (s := i + 1) (a := 0) b m (by omega) (by omega)
      have w2 := sM_sizeBy (s := i + 1) b m (by omega)
      have w3 := sM_joyBy (s := i + 1) b m (by omega)
      have w4 := sM_slights (s := i + 1) b m (by omega)
      have hle : eSafe D g (i + 1) ≤ i + 1 := eSafe_lt
      have w5 := sM_joyBy (s := eSafe D g (i + 1)) b m (by omega)
      have w6 := sM_slights (s := eSafe D g (i + 1)) b m (by omega)
      have b1 := eOver5_b (s := i + 1) b
      have b2 := eOver4_b (s := i + 1) b
      have b3 := eSliS_b (s := i + 1) b
      have b4 := eSliS_b (s := eSafe D g (i + 1)) b
      have b5 := eOver4_b (s := eSafe D g (i + 1)) b
      have b6 := b.2.1
      have w0 := m.2.1.1
      rw [show jz ((0 : Nat) : Int) = jz 0 from rfl] at w1
      have es : eSafe D g (i + 1 + 1) = if (eWhole D g (i + 1) 0 = true ∧ eOver (D 5) (i + 1) g ≤ D 0 3) ∧ (eSum (eSli D (i + 1)) g < eSum (eSli D (eSafe D g (i + 1))) g ∨ eSum (eSli D (i + 1)) g = eSum (eSli D (eSafe D g (i + 1))) g ∧ eOver (D 4) (eSafe D g (i + 1)) g < eOver (D 4) (i + 1) g) then i + 1 else eSafe D g (i + 1) := rfl
      have e9 : jz ((i + 1 : Nat) : Int) + jz 1 = jz ((i + 1 + 1 : Nat) : Int) := by rw [jz_add]; rfl
      simp only [fM_safe_l25, fM_safe_l25_b, fM_safe_l25_j97, fM_safe_l25_j95, hA, es]
      generalize hk : i + 1 = k at *
      generalize 2 ^ g = N at *
      by_cases g1 : eWhole D g k 0 = true
      · by_cases g2 : eOver (D 5) k g ≤ D 0 3
        · by_cases g3 : eSum (eSli D k) g < eSum (eSli D (eSafe D g k)) g
          · rw [if_pos ⟨⟨g1, g2⟩, Or.inl g3⟩]
            simp (disch := omega) only [Bool.false_eq_true, jz_lit, jz_neg, jz_nat, jz_add, jz_sub, jz_mul, jz_lt, jz_le, jz_eq, jz_ix, jin_z, jz_div, jzw, jwz, jw_lit, jw_neg, jw_add, jw_sub, jw_mul, jw_lt, jw_le, jw_eq, jw_div, Int.toNat_natCast, if_pos, if_neg, if_true, if_false, Option.bind_some, Int.natCast_add, Int.natCast_mul, Int.cast_ofNat_Int, Int.reduceToNat, Int.reduceAdd, Int.reduceMul, Int.reduceSub, Int.reduceNeg, Nat.reduceAdd, Nat.reduceMul, w1, w2, w3, w4, w5, w6, w0, g1]
          · by_cases g4 : eSum (eSli D k) g = eSum (eSli D (eSafe D g k)) g
            · by_cases g5 : eOver (D 4) (eSafe D g k) g < eOver (D 4) k g
              · rw [if_pos ⟨⟨g1, g2⟩, Or.inr ⟨g4, g5⟩⟩]
                simp (disch := omega) only [Bool.false_eq_true, jz_lit, jz_neg, jz_nat, jz_add, jz_sub, jz_mul, jz_lt, jz_le, jz_eq, jz_ix, jin_z, jz_div, jzw, jwz, jw_lit, jw_neg, jw_add, jw_sub, jw_mul, jw_lt, jw_le, jw_eq, jw_div, Int.toNat_natCast, if_pos, if_neg, if_true, if_false, Option.bind_some, Int.natCast_add, Int.natCast_mul, Int.cast_ofNat_Int, Int.reduceToNat, Int.reduceAdd, Int.reduceMul, Int.reduceSub, Int.reduceNeg, Nat.reduceAdd, Nat.reduceMul, w1, w2, w3, w4, w5, w6, w0, g1]
              · rw [if_neg (by omega)]
                simp (disch := omega) only [Bool.false_eq_true, jz_lit, jz_neg, jz_nat, jz_add, jz_sub, jz_mul, jz_lt, jz_le, jz_eq, jz_ix, jin_z, jz_div, jzw, jwz, jw_lit, jw_neg, jw_add, jw_sub, jw_mul, jw_lt, jw_le, jw_eq, jw_div, Int.toNat_natCast, if_pos, if_neg, if_true, if_false, Option.bind_some, Int.natCast_add, Int.natCast_mul, Int.cast_ofNat_Int, Int.reduceToNat, Int.reduceAdd, Int.reduceMul, Int.reduceSub, Int.reduceNeg, Nat.reduceAdd, Nat.reduceMul, w1, w2, w3, w4, w5, w6, w0, g1]
            · rw [if_neg (by omega)]
              simp (disch := omega) only [Bool.false_eq_true, jz_lit, jz_neg, jz_nat, jz_add, jz_sub, jz_mul, jz_lt, jz_le, jz_eq, jz_ix, jin_z, jz_div, jzw, jwz, jw_lit, jw_neg, jw_add, jw_sub, jw_mul, jw_lt, jw_le, jw_eq, jw_div, Int.toNat_natCast, if_pos, if_neg, if_true, if_false, Option.bind_some, Int.natCast_add, Int.natCast_mul, Int.cast_ofNat_Int, Int.reduceToNat, Int.reduceAdd, Int.reduceMul, Int.reduceSub, Int.reduceNeg, Nat.reduceAdd, Nat.reduceMul, w1, w2, w3, w4, w5, w6, w0, g1]
        · rw [if_neg (by omega)]
          simp (disch := omega) only [Bool.false_eq_true, jz_lit, jz_neg, jz_nat, jz_add, jz_sub, jz_mul, jz_lt, jz_le, jz_eq, jz_ix, jin_z, jz_div, jzw, jwz, jw_lit, jw_neg, jw_add, jw_sub, jw_mul, jw_lt, jw_le, jw_eq, jw_div, Int.toNat_natCast, if_pos, if_neg, if_true, if_false, Option.bind_some, Int.natCast_add, Int.natCast_mul, Int.cast_ofNat_Int, Int.reduceToNat, Int.reduceAdd, Int.reduceMul, Int.reduceSub, Int.reduceNeg, Nat.reduceAdd, Nat.reduceMul, w1, w2, w0, g1]
      · rw [if_neg (fun h => g1 h.1.1)]
        simp (disch := omega) only [Bool.false_eq_true, jz_lit, jz_neg, jz_nat, jz_add, jz_sub, jz_mul, jz_lt, jz_le, jz_eq, jz_ix, jin_z, jz_div, jzw, jwz, jw_lit, jw_neg, jw_add, jw_sub, jw_mul, jw_lt, jw_le, jw_eq, jw_div, Int.toNat_natCast, if_pos, if_neg, if_true, if_false, Option.bind_some, Int.natCast_add, Int.natCast_mul, Int.cast_ofNat_Int, Int.reduceToNat, Int.reduceAdd, Int.reduceMul, Int.reduceSub, Int.reduceNeg, Nat.reduceAdd, Nat.reduceMul, w1, g1]
    · have e : 2 ^ g - 1 + 1 = 2 ^ g := by omega
      simp only [fM_safe_l25, fM_safe_l25_b, hA, e]
      generalize 2 ^ g = N at *
      simp (disch := omega) only [Bool.false_eq_true, jz_lit, jz_neg, jz_nat, jz_add, jz_sub, jz_mul, jz_lt, jz_le, jz_eq, jz_ix, jin_z, jz_div, jzw, jwz, jw_lit, jw_neg, jw_add, jw_sub, jw_mul, jw_lt, jw_le, jw_eq, jw_div, Int.toNat_natCast, if_pos, if_neg, if_true, if_false, Option.bind_some, Int.natCast_add, Int.natCast_mul, Int.cast_ofNat_Int, Int.reduceToNat, Int.reduceAdd, Int.reduceMul, Int.reduceSub, Int.reduceNeg, Nat.reduceAdd, Nat.reduceMul]
  rw [← hall]
  show jlim _ (0, 1) = jlim _ (jz (eSafe D g 1), jz ((1 : Nat) : Int))
  rw [eSafe_1]
  rfl
end ESE
