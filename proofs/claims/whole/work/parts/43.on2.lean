/-! on -/
def eP (T : Nat → Nat) (k : Nat) : Nat := T k * 256 + T (k + 1)
theorem eP_lt {T : Nat → Nat} {k : Nat} (h1 : T k < 256) (h2 : T (k + 1) < 256) : eP T k ≤ 65535 := by
  unfold eP
  omega
def eRd (T : Nat → Nat) (g : Nat) : jD := fun o k => if o = 0 then (if k = 1 then ((eP T 0 : Nat) : Int) else if eP T 2 = 65535 then -1 else ((eP T 2 : Nat) : Int)) else if o = 1 then (if k < g then ((T (4 + 3 * k) : Nat) : Int) else 0) else (if k < g then ((eP T (5 + 3 * k) : Nat) : Int) else 0)
theorem eRd_W (T : Nat → Nat) (g : Nat) : eRd T g 0 1 = ((eP T 0 : Nat) : Int) := rfl
theorem eRd_F (T : Nat → Nat) (g : Nat) : eRd T g 0 2 = if eP T 2 = 65535 then -1 else ((eP T 2 : Nat) : Int) := rfl
theorem eRd_1 (T : Nat → Nat) (g k : Nat) : eRd T g 1 k = if k < g then ((T (4 + 3 * k) : Nat) : Int) else 0 := rfl
theorem eRd_2 (T : Nat → Nat) (g k : Nat) : eRd T g 2 k = if k < g then ((eP T (5 + 3 * k) : Nat) : Int) else 0 := rfl
def eTld (T : Nat → Nat) (g : Nat) : Prop := (∀ k, k < g → T (4 + 3 * k) ≤ 4 ∧ (T (4 + 3 * k) = 0 → eP T (5 + 3 * k) = 0) ∧ (T (4 + 3 * k) ≠ 0 → eP T 2 + (eP T (5 + 3 * k)) ≤ eP T 0)) ∧ ((eP T 2 = 65535 ∧ ∀ k, k < g → T (4 + 3 * k) = 0) ∨ ∃ k, k < g ∧ T (4 + 3 * k) ≠ 0 ∧ eP T (5 + 3 * k) = 0)
section EO2
variable {p g n : Nat} {D S R : jD} {T : Nat → Nat} {h : jH}
theorem eRd_8 {g : Nat} (hg : g ≤ 8) : eSound (eRd T g) 8 ↔ eSound (eRd T g) g := by
  have z1 : ∀ k, g ≤ k → eRd T g 1 k = 0 := fun k hk => by rw [eRd_1, if_neg (by omega)]
  have z2 : ∀ k, g ≤ k → eRd T g 2 k = 0 := fun k hk => by rw [eRd_2, if_neg (by omega)]
  unfold eSound
  constructor
  · rintro ⟨a1, a2, a3, a4, a5⟩
    refine ⟨a1, a2, ⟨fun z k hk => a3.mp z k (by omega), fun z => a3.mpr (fun k hk => ?_)⟩, fun k hk => a4 k (by omega), ?_⟩
    · by_cases c : k < g
      · exact z k c
      · exact z1 k (by omega)
    · rcases a5 with z | ⟨k, b1, b2, b3⟩
      · exact Or.inl z
      · by_cases c : k < g
        · exact Or.inr ⟨k, c, b2, b3⟩
        · exact absurd (z1 k (by omega)) b2
  · rintro ⟨a1, a2, a3, a4, a5⟩
    refine ⟨a1, a2, ⟨fun z k hk => ?_, fun z => a3.mpr (fun k hk => z k (by omega))⟩, fun k hk => ?_, ?_⟩
    · by_cases c : k < g
      · exact a3.mp z k c
      · exact z1 k (by omega)
    · by_cases c : k < g
      · exact a4 k c
      · exact ⟨by rw [z1 k (by omega)]; omega, fun _ => z2 k (by omega), fun z => absurd (z1 k (by omega)) z⟩
    · rcases a5 with z | ⟨k, b1, b2, b3⟩
      · exact Or.inl z
      · exact Or.inr ⟨k, by omega, b2, b3⟩
theorem eRd_b (hT : ∀ k, k < 5 + 3 * g → T k < 256) : eRdB (eRd T g) := by
  have t0 := eP_lt (T := T) (k := 0) (hT 0 (by omega)) (hT 1 (by omega))
  have t2 := eP_lt (T := T) (k := 2) (hT 2 (by omega)) (hT 3 (by omega))
  refine ⟨by rw [eRd_W]; omega, by rw [eRd_W]; omega, by rw [eRd_F]; split <;> omega, by rw [eRd_F]; split <;> omega, fun k hk => ?_⟩
  rw [eRd_1, eRd_2]
  by_cases c : k < g
  · have t4 := hT (4 + 3 * k) (by omega)
    have t5 := eP_lt (T := T) (k := 5 + 3 * k) (hT _ (by omega)) (hT _ (by omega))
    rw [if_pos c, if_pos c]
    omega
  · rw [if_neg c, if_neg c]
    omega
theorem eRd_told (hT : ∀ k, k < 5 + 3 * g → T k < 256) : eSound (eRd T g) g ↔ eP T 0 ≤ 999 ∧ (eP T 2 = 65535 ∨ eP T 2 ≤ eP T 0) ∧ eTld T g := by
  unfold eSound eTld
  rw [eRd_W, eRd_F]
  have q1 : ∀ k, k < g → eRd T g 1 k = ((T (4 + 3 * k) : Nat) : Int) := fun k hk => by rw [eRd_1, if_pos hk]
  have q2 : ∀ k, k < g → eRd T g 2 k = ((eP T (5 + 3 * k) : Nat) : Int) := fun k hk => by rw [eRd_2, if_pos hk]
  generalize eP T 0 = W
  generalize eP T 2 = F
  by_cases f : F = 65535
  · rw [if_pos f]
    constructor
    · rintro ⟨a1, a2, a3, a4, a5⟩
      have nn := a3.mp rfl
      have n2 : ∀ k, k < g → T (4 + 3 * k) = 0 := fun k hk => by have := nn k hk; rw [q1 k hk] at this; omega
      refine ⟨by omega, Or.inl f, fun k hk => ?_, Or.inl ⟨f, n2⟩⟩
      have := (a4 k hk).2.1 (nn k hk)
      rw [q2 k hk] at this
      have := n2 k hk
      exact ⟨by omega, fun _ => by omega, fun z => absurd this z⟩
    · rintro ⟨a1, a2, a3, a4⟩
      have n2 : ∀ k, k < g → T (4 + 3 * k) = 0 := fun k hk => by
        have := (a3 k hk).2.2
        apply Classical.byContradiction
        intro z
        have := this z
        omega
      refine ⟨by omega, by omega, ⟨fun _ k hk => by rw [q1 k hk, n2 k hk]; rfl, fun _ => rfl⟩, fun k hk => ?_, Or.inl rfl⟩
      have := (a3 k hk).2.1 (n2 k hk)
      rw [q1 k hk, q2 k hk]
      have := n2 k hk
      exact ⟨by omega, fun _ => by omega, fun z => absurd (by omega) z⟩
  · rw [if_neg f]
    constructor
    · rintro ⟨a1, a2, a3, a4, a5⟩
      refine ⟨by omega, Or.inr (by omega), fun k hk => ?_, Or.inr ?_⟩
      · have := a4 k hk
        rw [q1 k hk, q2 k hk] at this
        exact ⟨by omega, fun z => by have := this.2.1 (by omega); omega, fun z => by have := this.2.2 (by omega); omega⟩
      · rcases a5 with z | ⟨k, b1, b2, b3⟩
        · omega
        · rw [q1 k b1] at b2
          rw [q2 k b1] at b3
          exact ⟨k, b1, by omega, by omega⟩
    · rintro ⟨a1, a2, a3, a4⟩
      have a4 : ∃ k, k < g ∧ T (4 + 3 * k) ≠ 0 ∧ eP T (5 + 3 * k) = 0 := by
        rcases a4 with z | z
        · exact absurd z.1 f
        · exact z
      obtain ⟨k0, b1, b2, b3⟩ := a4
      refine ⟨by omega, by omega, ⟨fun z => by omega, fun z => ?_⟩, fun k hk => ?_, Or.inr ⟨k0, b1, ?_, ?_⟩⟩
      · have := z k0 b1
        rw [q1 k0 b1] at this
        omega
      · have := a3 k hk
        rw [q1 k hk, q2 k hk]
        exact ⟨by omega, fun z => by have := this.2.1 (by omega); omega, fun z => by have := this.2.2 (by omega); omega⟩
      · rw [q1 k0 b1]; omega
      · rw [q2 k0 b1]; omega
theorem sM_twoAt {k : Nat} (hk : k + 1 < 1600) (ha : T k < 256 ∧ h.1 111 k = jz (T k)) (hb : T (k + 1) < 256 ∧ h.1 111 (k + 1) = jz (T (k + 1))) : fM_twoAt (jz k) h = some (jz (eP T k)) := by
  obtain ⟨a1, a2⟩ := ha
  obtain ⟨b1, b2⟩ := hb
  have e : eP T k = T k * 256 + T (k + 1) := rfl
  generalize eP T k = x at *
  generalize T k = a at *
  generalize T (k + 1) = b at *
  unfold fM_twoAt
  have e1 : 256 * (a : Int) + (b : Int) = ((x : Nat) : Int) := by omega
  have e2 : ((k : Int) + 1).toNat = k + 1 := by omega
  simp (disch := omega) only [Bool.false_eq_true, jz_lit, jz_neg, jz_nat, jz_add, jz_sub, jz_mul, jz_lt, jz_le, jz_eq, jz_ix, jin_z, jz_div, jzw, jwz, jw_lit, jw_neg, jw_add, jw_sub, jw_mul, jw_lt, jw_le, jw_eq, jw_div, Int.toNat_natCast, if_pos, if_neg, if_true, if_false, Option.bind_some, Int.natCast_add, Int.natCast_mul, Int.cast_ofNat_Int, Int.reduceToNat, Int.reduceAdd, Int.reduceMul, Int.reduceSub, Int.reduceNeg, Nat.reduceAdd, Nat.reduceMul, a2, e2, b2, e1]
theorem sM_told (hn : n = 5 + 3 * g) (hg : g ≤ 8) (m : mV g D h) (hT : ∀ k, k < n → T k < 256 ∧ h.1 111 k = jz (T k)) : (eTld T g → fM_areGuestsTold h = some (jz 1)) ∧ (¬ eTld T g → fM_areGuestsTold h = some (jz 0)) := by
  have tw : ∀ k, k + 1 < n → fM_twoAt (jz k) h = some (jz (eP T k)) ∧ eP T k ≤ 65535 := fun k hk => ⟨sM_twoAt (by omega) (hT k (by omega)) (hT (k + 1) hk), eP_lt (hT k (by omega)).1 (hT (k + 1) hk).1⟩
  obtain ⟨t0, u0⟩ := tw 0 (by omega)
  obtain ⟨t2, u2⟩ := tw 2 (by omega)
  have t0' : fM_twoAt (jz 0) h = some (jz (eP T 0)) := t0
  have t2' : fM_twoAt (jz 2) h = some (jz (eP T 2)) := t2
  clear t0 t2
  unfold eTld
  generalize hW : eP T 0 = W at *
  generalize hF : eP T 2 = F at *
  have mg := sM_guestMany m
  have rd : ∀ k, k < g → T (4 + 3 * k) < 256 ∧ h.1 111 (4 + 3 * k) = jz (T (4 + 3 * k)) ∧ fM_twoAt (jz ((5 + 3 * k : Nat) : Int)) h = some (jz ((eP T (5 + 3 * k) : Nat) : Int)) ∧ eP T (5 + 3 * k) ≤ 65535 := fun k hk => by
    have t := tw (5 + 3 * k) (by omega)
    have u := hT (4 + 3 * k) (by omega)
    exact ⟨u.1, u.2, t.1, t.2⟩
  let ok : Nat → Prop := fun k => T (4 + 3 * k) ≤ 4 ∧ (T (4 + 3 * k) = 0 → eP T (5 + 3 * k) = 0) ∧ (T (4 + 3 * k) ≠ 0 → F + (eP T (5 + 3 * k)) ≤ W)
  let fa : Nat → Bool := fun k => decide (T (4 + 3 * k) ≠ 0)
  let fs : Nat → Bool := fun k => decide (T (4 + 3 * k) ≠ 0 ∧ eP T (5 + 3 * k) = 0)
  let mk : Nat → Int32 × Int32 × Int32 := fun k => (jz (jbool (eAny fa k)), jz (jbool (eAny fs k)), jz k)
  have dbl : ∀ b : Bool, (jbool b = 0 ∧ b = false) ∨ (jbool b = 1 ∧ b = true) := fun b => by cases b <;> simp [jbool]
  have st : ∀ k, k < g → ok k → fM_areGuestsTold_l6 h (mk k) = some (.inl (mk (k + 1))) := by
    intro k hk o
    obtain ⟨o1, o2, o3⟩ := o
    obtain ⟨r0, r1, r2, r3⟩ := rd k hk
    show fM_areGuestsTold_l6_b (jz (jbool (eAny fa k))) (jz (jbool (eAny fs k))) (jz k) h = some (.inl (jz (jbool (eAny fa k || fa k)), jz (jbool (eAny fs k || fs k)), jz ((k + 1 : Nat) : Int)))
    have xfa : fa k = decide (T (4 + 3 * k) ≠ 0) := rfl
    have xfs : fs k = decide (T (4 + 3 * k) ≠ 0 ∧ eP T (5 + 3 * k) = 0) := rfl
    generalize eAny fa k = A
    generalize eAny fs k = B
    generalize eP T (5 + 3 * k) = bh at *
    generalize T (4 + 3 * k) = hw at *
    have r1' : h.1 111 (4 + 3 * (k : Int)).toNat = jz hw := by rw [show (4 + 3 * (k : Int)).toNat = 4 + 3 * k by omega]; exact r1
    have r2' : fM_twoAt (jz (5 + 3 * (k : Int))) h = some (jz bh) := by rw [show 5 + 3 * (k : Int) = ((5 + 3 * k : Nat) : Int) by omega]; exact r2
    unfold fM_areGuestsTold_l6_b fM_areGuestsTold_l6_j53 fM_areGuestsTold_l6_j76 fM_areGuestsTold_l6_j85 fM_areGuestsTold_l6_j90 fM_areGuestsTold_l6_j105 fM_areGuestsTold_l6_j109 fM_areGuestsTold_l6_j110
    by_cases z : hw = 0
    · have bz := o2 z
      have e1 : fa k = false := by rw [xfa]; exact decide_eq_false (fun t => t z)
      have e2 : fs k = false := by rw [xfs]; exact decide_eq_false (fun t => t.1 z)
      rw [e1, e2, Bool.or_false, Bool.or_false]
      rcases dbl A with ⟨x1, x2⟩ | ⟨x1, x2⟩ <;> rcases dbl B with ⟨y1, y2⟩ | ⟨y1, y2⟩ <;> rw [x1, y1] <;> (simp (disch := omega) only [Bool.false_eq_true, jz_lit, jz_neg, jz_nat, jz_add, jz_sub, jz_mul, jz_lt, jz_le, jz_eq, jz_ix, jin_z, jz_div, jzw, jwz, jw_lit, jw_neg, jw_add, jw_sub, jw_mul, jw_lt, jw_le, jw_eq, jw_div, Int.toNat_natCast, if_pos, if_neg, if_true, if_false, Option.bind_some, Int.natCast_add, Int.natCast_mul, Int.cast_ofNat_Int, Int.reduceToNat, Int.reduceAdd, Int.reduceMul, Int.reduceSub, Int.reduceNeg, Nat.reduceAdd, Nat.reduceMul, mg, r1', r2'])
    · have e1 : fa k = true := by rw [xfa]; exact decide_eq_true z
      have o3' := o3 z
      rw [e1, Bool.or_true, show jbool true = 1 from rfl]
      by_cases bz : bh = 0
      · have e2 : fs k = true := by rw [xfs]; exact decide_eq_true ⟨z, bz⟩
        rw [e2, Bool.or_true, show jbool true = 1 from rfl]
        rcases dbl A with ⟨x1, x2⟩ | ⟨x1, x2⟩ <;> rcases dbl B with ⟨y1, y2⟩ | ⟨y1, y2⟩ <;> rw [x1, y1] <;> (simp (disch := omega) only [Bool.false_eq_true, jz_lit, jz_neg, jz_nat, jz_add, jz_sub, jz_mul, jz_lt, jz_le, jz_eq, jz_ix, jin_z, jz_div, jzw, jwz, jw_lit, jw_neg, jw_add, jw_sub, jw_mul, jw_lt, jw_le, jw_eq, jw_div, Int.toNat_natCast, if_pos, if_neg, if_true, if_false, Option.bind_some, Int.natCast_add, Int.natCast_mul, Int.cast_ofNat_Int, Int.reduceToNat, Int.reduceAdd, Int.reduceMul, Int.reduceSub, Int.reduceNeg, Nat.reduceAdd, Nat.reduceMul, mg, r1', r2', t0', t2'])
      · have e2 : fs k = false := by rw [xfs]; exact decide_eq_false (fun t => bz t.2)
        rw [e2, Bool.or_false]
        rcases dbl A with ⟨x1, x2⟩ | ⟨x1, x2⟩ <;> rcases dbl B with ⟨y1, y2⟩ | ⟨y1, y2⟩ <;> rw [x1, y1] <;> (simp (disch := omega) only [Bool.false_eq_true, jz_lit, jz_neg, jz_nat, jz_add, jz_sub, jz_mul, jz_lt, jz_le, jz_eq, jz_ix, jin_z, jz_div, jzw, jwz, jw_lit, jw_neg, jw_add, jw_sub, jw_mul, jw_lt, jw_le, jw_eq, jw_div, Int.toNat_natCast, if_pos, if_neg, if_true, if_false, Option.bind_some, Int.natCast_add, Int.natCast_mul, Int.cast_ofNat_Int, Int.reduceToNat, Int.reduceAdd, Int.reduceMul, Int.reduceSub, Int.reduceNeg, Nat.reduceAdd, Nat.reduceMul, mg, r1', r2', t0', t2'])
  have sb : ∀ k, k < g → ¬ ok k → fM_areGuestsTold_l6 h (mk k) = some (.inr (.inl ())) := by
    intro k hk o
    obtain ⟨r0, r1, r2, r3⟩ := rd k hk
    show fM_areGuestsTold_l6_b (jz (jbool (eAny fa k))) (jz (jbool (eAny fs k))) (jz k) h = some (.inr (.inl ()))
    have o' : ¬ (T (4 + 3 * k) ≤ 4 ∧ (T (4 + 3 * k) = 0 → eP T (5 + 3 * k) = 0) ∧ (T (4 + 3 * k) ≠ 0 → F + (eP T (5 + 3 * k)) ≤ W)) := o
    generalize eP T (5 + 3 * k) = bh at *
    generalize T (4 + 3 * k) = hw at *
    have r1' : h.1 111 (4 + 3 * (k : Int)).toNat = jz hw := by rw [show (4 + 3 * (k : Int)).toNat = 4 + 3 * k by omega]; exact r1
    have r2' : fM_twoAt (jz (5 + 3 * (k : Int))) h = some (jz bh) := by rw [show 5 + 3 * (k : Int) = ((5 + 3 * k : Nat) : Int) by omega]; exact r2
    unfold fM_areGuestsTold_l6_b fM_areGuestsTold_l6_j53
    by_cases c4 : 4 < hw
    · simp (disch := omega) only [Bool.false_eq_true, jz_lit, jz_neg, jz_nat, jz_add, jz_sub, jz_mul, jz_lt, jz_le, jz_eq, jz_ix, jin_z, jz_div, jzw, jwz, jw_lit, jw_neg, jw_add, jw_sub, jw_mul, jw_lt, jw_le, jw_eq, jw_div, Int.toNat_natCast, if_pos, if_neg, if_true, if_false, Option.bind_some, Int.natCast_add, Int.natCast_mul, Int.cast_ofNat_Int, Int.reduceToNat, Int.reduceAdd, Int.reduceMul, Int.reduceSub, Int.reduceNeg, Nat.reduceAdd, Nat.reduceMul, mg, r1', r2']
    by_cases z : hw = 0
    · have bz : 0 < bh := by
        apply Classical.byContradiction
        intro t
        exact o' ⟨by omega, fun _ => by omega, fun u => absurd z u⟩
      simp (disch := omega) only [Bool.false_eq_true, jz_lit, jz_neg, jz_nat, jz_add, jz_sub, jz_mul, jz_lt, jz_le, jz_eq, jz_ix, jin_z, jz_div, jzw, jwz, jw_lit, jw_neg, jw_add, jw_sub, jw_mul, jw_lt, jw_le, jw_eq, jw_div, Int.toNat_natCast, if_pos, if_neg, if_true, if_false, Option.bind_some, Int.natCast_add, Int.natCast_mul, Int.cast_ofNat_Int, Int.reduceToNat, Int.reduceAdd, Int.reduceMul, Int.reduceSub, Int.reduceNeg, Nat.reduceAdd, Nat.reduceMul, mg, r1', r2']
    · have bz : W < F + bh := by
        apply Classical.byContradiction
        intro t
        exact o' ⟨by omega, fun u => absurd u z, fun _ => by omega⟩
      simp (disch := omega) only [Bool.false_eq_true, jz_lit, jz_neg, jz_nat, jz_add, jz_sub, jz_mul, jz_lt, jz_le, jz_eq, jz_ix, jin_z, jz_div, jzw, jwz, jw_lit, jw_neg, jw_add, jw_sub, jw_mul, jw_lt, jw_le, jw_eq, jw_div, Int.toNat_natCast, if_pos, if_neg, if_true, if_false, Option.bind_some, Int.natCast_add, Int.natCast_mul, Int.cast_ofNat_Int, Int.reduceToNat, Int.reduceAdd, Int.reduceMul, Int.reduceSub, Int.reduceNeg, Nat.reduceAdd, Nat.reduceMul, mg, r1', r2', t0', t2']
  have s0 : ((0, 0, 0) : Int32 × Int32 × Int32) = mk 0 := rfl
  by_cases all : ∀ k, k < g → ok k
  · have lp : jlim (fM_areGuestsTold_l6 h) (0, 0, 0) = some (.inr (jz (jbool (eAny fa g)), jz (jbool (eAny fs g)))) := by
      refine jlim_go mk g s0 (fun i hi => st i hi (all i hi)) ?_
      show fM_areGuestsTold_l6_b (jz (jbool (eAny fa g))) (jz (jbool (eAny fs g))) (jz g) h = _
      unfold fM_areGuestsTold_l6_b
      simp (disch := omega) only [Bool.false_eq_true, jz_lit, jz_neg, jz_nat, jz_add, jz_sub, jz_mul, jz_lt, jz_le, jz_eq, jz_ix, jin_z, jz_div, jzw, jwz, jw_lit, jw_neg, jw_add, jw_sub, jw_mul, jw_lt, jw_le, jw_eq, jw_div, Int.toNat_natCast, if_pos, if_neg, if_true, if_false, Option.bind_some, Int.natCast_add, Int.natCast_mul, Int.cast_ofNat_Int, Int.reduceToNat, Int.reduceAdd, Int.reduceMul, Int.reduceSub, Int.reduceNeg, Nat.reduceAdd, Nat.reduceMul, mg]
    unfold fM_areGuestsTold
    rw [lp, Option.bind_some, Sum.elim_inr]
    rcases dbl (eAny fa g) with ⟨x1, x2⟩ | ⟨x1, x2⟩
    · have nn : ∀ k, k < g → T (4 + 3 * k) = 0 := fun k hk => Decidable.not_not.mp (of_decide_eq_false ((eAny_f fa g).mp x2 k hk))
      constructor
      · rintro ⟨_, q | ⟨k, q1, q2, q3⟩⟩
        · have q1 := q.1
          simp only [x1]
          simp (disch := omega) only [Bool.false_eq_true, jz_lit, jz_neg, jz_nat, jz_add, jz_sub, jz_mul, jz_lt, jz_le, jz_eq, jz_ix, jin_z, jz_div, jzw, jwz, jw_lit, jw_neg, jw_add, jw_sub, jw_mul, jw_lt, jw_le, jw_eq, jw_div, Int.toNat_natCast, if_pos, if_neg, if_true, if_false, Option.bind_some, Int.natCast_add, Int.natCast_mul, Int.cast_ofNat_Int, Int.reduceToNat, Int.reduceAdd, Int.reduceMul, Int.reduceSub, Int.reduceNeg, Nat.reduceAdd, Nat.reduceMul, t2']
        · exact absurd (nn k q1) q2
      · intro nt
        have q1 : ¬ F = 65535 := fun t => nt ⟨all, Or.inl ⟨t, nn⟩⟩
        simp only [x1]
        simp (disch := omega) only [Bool.false_eq_true, jz_lit, jz_neg, jz_nat, jz_add, jz_sub, jz_mul, jz_lt, jz_le, jz_eq, jz_ix, jin_z, jz_div, jzw, jwz, jw_lit, jw_neg, jw_add, jw_sub, jw_mul, jw_lt, jw_le, jw_eq, jw_div, Int.toNat_natCast, if_pos, if_neg, if_true, if_false, Option.bind_some, Int.natCast_add, Int.natCast_mul, Int.cast_ofNat_Int, Int.reduceToNat, Int.reduceAdd, Int.reduceMul, Int.reduceSub, Int.reduceNeg, Nat.reduceAdd, Nat.reduceMul, t2']
    · obtain ⟨k1, k2, k3⟩ := (eAny_t fa g).mp x2
      have k3 := of_decide_eq_true k3
      rcases dbl (eAny fs g) with ⟨y1, y2⟩ | ⟨y1, y2⟩
      · have ns := (eAny_f fs g).mp y2
        constructor
        · rintro ⟨_, q | ⟨k, q1, q2, q3⟩⟩
          · exact absurd (q.2 k1 k2) k3
          · exact absurd ⟨q2, q3⟩ (of_decide_eq_false (ns k q1))
        · intro _
          simp only [x1, y1]
          simp (disch := omega) only [Bool.false_eq_true, jz_lit, jz_neg, jz_nat, jz_add, jz_sub, jz_mul, jz_lt, jz_le, jz_eq, jz_ix, jin_z, jz_div, jzw, jwz, jw_lit, jw_neg, jw_add, jw_sub, jw_mul, jw_lt, jw_le, jw_eq, jw_div, Int.toNat_natCast, if_pos, if_neg, if_true, if_false, Option.bind_some, Int.natCast_add, Int.natCast_mul, Int.cast_ofNat_Int, Int.reduceToNat, Int.reduceAdd, Int.reduceMul, Int.reduceSub, Int.reduceNeg, Nat.reduceAdd, Nat.reduceMul, true_or, or_true]
      · obtain ⟨k4, k5, k6⟩ := (eAny_t fs g).mp y2
        constructor
        · intro _
          simp only [x1, y1]
          simp (disch := omega) only [Bool.false_eq_true, jz_lit, jz_neg, jz_nat, jz_add, jz_sub, jz_mul, jz_lt, jz_le, jz_eq, jz_ix, jin_z, jz_div, jzw, jwz, jw_lit, jw_neg, jw_add, jw_sub, jw_mul, jw_lt, jw_le, jw_eq, jw_div, Int.toNat_natCast, if_pos, if_neg, if_true, if_false, Option.bind_some, Int.natCast_add, Int.natCast_mul, Int.cast_ofNat_Int, Int.reduceToNat, Int.reduceAdd, Int.reduceMul, Int.reduceSub, Int.reduceNeg, Nat.reduceAdd, Nat.reduceMul, true_or, or_true]
        · intro nt
          exact absurd ⟨all, Or.inr ⟨k4, k5, of_decide_eq_true k6⟩⟩ nt
  · have ex : ∃ k, k < g ∧ ¬ ok k := Classical.byContradiction (fun t => all (fun k hk => Classical.byContradiction (fun u => t ⟨k, hk, u⟩)))
    obtain ⟨k, hk, bad⟩ := ex
    have lp : jlim (fM_areGuestsTold_l6 h) (0, 0, 0) = some (.inl ()) := by
      rw [s0]
      refine jlim_bad mk (n := k) (fun i hi => ?_) (sb k hk bad)
      by_cases c : ok i
      · exact Or.inl (st i (by omega) c)
      · exact Or.inr (sb i (by omega) c)
    constructor
    · intro t; exact absurd (t.1 k hk) bad
    · intro _
      unfold fM_areGuestsTold
      rw [lp]
      rfl
end EO2
