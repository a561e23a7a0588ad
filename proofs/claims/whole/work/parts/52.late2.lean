/-! the late SUM's value, the reference -/
theorem sM_clip {v : Int} (h1 : -9223372036854775808 ≤ v) (h2 : v < 9223372036854775808) : fM_qClip (jw v) = jw (jclip v) := by
  unfold fM_qClip jclip
  by_cases c1 : 1000000 < v
  · simp (disch := omega) only [Bool.false_eq_true, jz_lit, jz_neg, jz_nat, jz_add, jz_sub, jz_mul, jz_lt, jz_le, jz_eq, jz_ix, jin_z, jz_div, jzw, jwz, jw_lit, jw_neg, jw_add, jw_sub, jw_mul, jw_lt, jw_le, jw_eq, jw_div, Int.toNat_natCast, if_pos, if_neg, if_true, if_false, Option.bind_some, Int.natCast_add, Int.natCast_mul, Int.cast_ofNat_Int, Int.reduceToNat, Int.reduceAdd, Int.reduceMul, Int.reduceSub, Int.reduceNeg, Nat.reduceAdd, Nat.reduceMul]
  · by_cases c2 : v < -1000000
    · simp (disch := omega) only [Bool.false_eq_true, jz_lit, jz_neg, jz_nat, jz_add, jz_sub, jz_mul, jz_lt, jz_le, jz_eq, jz_ix, jin_z, jz_div, jzw, jwz, jw_lit, jw_neg, jw_add, jw_sub, jw_mul, jw_lt, jw_le, jw_eq, jw_div, Int.toNat_natCast, if_pos, if_neg, if_true, if_false, Option.bind_some, Int.natCast_add, Int.natCast_mul, Int.cast_ofNat_Int, Int.reduceToNat, Int.reduceAdd, Int.reduceMul, Int.reduceSub, Int.reduceNeg, Nat.reduceAdd, Nat.reduceMul]
    · simp (disch := omega) only [Bool.false_eq_true, jz_lit, jz_neg, jz_nat, jz_add, jz_sub, jz_mul, jz_lt, jz_le, jz_eq, jz_ix, jin_z, jz_div, jzw, jwz, jw_lit, jw_neg, jw_add, jw_sub, jw_mul, jw_lt, jw_le, jw_eq, jw_div, Int.toNat_natCast, if_pos, if_neg, if_true, if_false, Option.bind_some, Int.natCast_add, Int.natCast_mul, Int.cast_ofNat_Int, Int.reduceToNat, Int.reduceAdd, Int.reduceMul, Int.reduceSub, Int.reduceNeg, Nat.reduceAdd, Nat.reduceMul]
theorem sM_floor {a b : Int} {h : jH} (ha : -1000000 ≤ a ∧ a ≤ 1000000) (hb : -1000000 ≤ b ∧ b ≤ 1000000) : fM_qFloor (jw a) (jw b) h = some (jw (if b = 0 then 0 else a.fdiv b)) := by
  have n := Int.natAbs_tdiv_le_natAbs a b
  have m : a.tdiv b * b + a.tmod b = a := by rw [Int.mul_comm]; exact Int.mul_tdiv_add_tmod a b
  have m2 := Int.natAbs_tmod a b
  have m3 := Nat.mod_le a.natAbs b.natAbs
  unfold fM_qFloor
  by_cases c0 : b = 0
  · subst c0
    simp (disch := omega) only [Bool.false_eq_true, jz_lit, jz_neg, jz_nat, jz_add, jz_sub, jz_mul, jz_lt, jz_le, jz_eq, jz_ix, jin_z, jz_div, jzw, jwz, jw_lit, jw_neg, jw_add, jw_sub, jw_mul, jw_lt, jw_le, jw_eq, jw_div, Int.toNat_natCast, if_pos, if_neg, if_true, if_false, Option.bind_some, Int.natCast_add, Int.natCast_mul, Int.cast_ofNat_Int, Int.reduceToNat, Int.reduceAdd, Int.reduceMul, Int.reduceSub, Int.reduceNeg, Nat.reduceAdd, Nat.reduceMul]
  have nb : ¬ jw b = 0 := by
    rw [show (0 : Int64) = jw 0 from rfl, jw_eq (by omega) (by omega) (by omega) (by omega)]
    exact c0
  rw [if_neg nb, if_pos nb, if_pos nb, if_neg c0, jw_div (by omega) (by omega) (by omega) (by omega), jw_mul, jw_sub, jfdiv c0]
  have ez : jw (a - a.tdiv b * b) = 0 ↔ a.tdiv b * b = a := by
    rw [show (0 : Int64) = jw 0 from rfl, jw_eq (by omega) (by omega) (by omega) (by omega)]
    omega
  have la : jw a < 0 ↔ a < 0 := by rw [show (0 : Int64) = jw 0 from rfl, jw_lt (by omega) (by omega) (by omega) (by omega)]
  have lb : jw b < 0 ↔ b < 0 := by rw [show (0 : Int64) = jw 0 from rfl, jw_lt (by omega) (by omega) (by omega) (by omega)]
  by_cases c1 : a.tdiv b * b = a
  · rw [if_pos (ez.mpr c1), if_neg (fun t => t.2 c1)]
  · rw [if_neg (fun t => c1 (ez.mp t))]
    unfold fM_qFloor_j32 fM_qFloor_j43
    by_cases c2 : a < 0
    · by_cases c3 : b < 0
      · rw [if_pos (la.mpr c2), if_pos (lb.mpr c3), if_pos rfl, if_neg (fun t => t.1 ⟨fun _ => c3, fun _ => c2⟩)]
      · rw [if_pos (la.mpr c2), if_neg (fun t => c3 (lb.mp t)), if_neg (by decide), if_pos ⟨fun t => c3 (t.mp c2), c1⟩]
        rw [show (1 : Int64) = jw 1 from rfl, jw_sub]
    · by_cases c3 : b < 0
      · rw [if_neg (fun t => c2 (la.mp t)), if_pos (lb.mpr c3), if_neg (by decide), if_pos ⟨fun t => c2 (t.mpr c3), c1⟩]
        rw [show (1 : Int64) = jw 1 from rfl, jw_sub]
      · rw [if_neg (fun t => c2 (la.mp t)), if_neg (fun t => c3 (lb.mp t)), if_pos rfl, if_neg (fun t => t.1 ⟨fun u => absurd u c2, fun u => absurd u c3⟩)]
/-- the stack as the reference holds it -/
def eStm (st : List Int) (h : jH) : Prop := st.length ≤ 64 ∧ (∀ x ∈ st, -1000000 ≤ x ∧ x ≤ 1000000) ∧ h.1 110 86 = jz st.length ∧ ∀ i, i < st.length → h.2 175 i = jw (eAt st i)
def eQS (o k : Nat) : Prop := o = 175 ∨ (o = 110 ∧ k = 86)
def ePsh (st : List Int) (x : Int) (h : jH) : jH := jhI (jhL h 175 st.length (jw x)) 110 86 (jz ((st.length + 1 : Nat) : Int))
theorem ePsh_fr (st : List Int) (x : Int) (h : jH) : eFr eQS h (ePsh st x h) := eFr_I (eFr_L (eFr_refl _ _) (Or.inl rfl) _) (Or.inr ⟨rfl, rfl⟩) _
theorem sM_push {st : List Int} {x : Int} {h : jH} (kl : st.length < 64) (k3 : h.1 110 86 = jz st.length) : fM_qPuts (jw x) h = some (ePsh st x h) := by
  have el : jz (st.length : Int) + 1 = jz ((st.length + 1 : Nat) : Int) := by rw [show (1 : Int32) = jz 1 from rfl, jz_add]; rfl
  unfold fM_qPuts ePsh
  simp (disch := omega) only [jhL_1, k3, jin_z, if_pos, jz_ix, Int.toNat_natCast, el]
theorem eStm_push {st : List Int} {x : Int} {h : jH} (K : eStm st h) (hx : -1000000 ≤ x ∧ x ≤ 1000000) (hl : st.length < 64) : eStm (x :: st) (ePsh st x h) := by
  refine ⟨by simp only [List.length_cons]; omega, ?_, ?_, ?_⟩
  · intro y hy
    rcases List.mem_cons.mp hy with rfl | hy
    · exact hx
    · exact K.2.1 y hy
  · rfl
  · intro i hi
    simp only [List.length_cons] at hi
    show (if 175 = 175 ∧ i = st.length then jw x else h.2 175 i) = _
    rw [eAt]
    by_cases c : i = st.length
    · rw [if_pos ⟨rfl, c⟩, if_pos c]
    · rw [if_neg (fun t => c t.2), if_neg c]
      exact K.2.2.2 i (by omega)
theorem eStm_top {st : List Int} {b : Int} {h : jH} (K : eStm (b :: st) h) : h.2 175 st.length = jw b := by
  have := K.2.2.2 st.length (by simp)
  rw [eAt, if_pos rfl] at this
  exact this
theorem eStm_pop {st : List Int} {b : Int} {h : jH} (K : eStm (b :: st) h) : eStm st (jhI h 110 86 (jz st.length)) := by
  obtain ⟨k1, k2, -, k3⟩ := K
  simp only [List.length_cons] at k1 k3
  refine ⟨by omega, fun y hy => k2 y (List.mem_cons_of_mem _ hy), rfl, fun i hi => ?_⟩
  have := k3 i (by omega)
  rw [eAt, if_neg (by omega)] at this
  exact this
theorem eStm_pop2 {st : List Int} {a b : Int} {h : jH} (K : eStm (b :: a :: st) h) : eStm st (jhI h 110 86 (jz st.length)) ∧ h.2 175 st.length = jw a ∧ h.2 175 (st.length + 1) = jw b := by
  have t := eStm_top K
  obtain ⟨k1, k2, -, k3⟩ := K
  simp only [List.length_cons] at k1 k3
  refine ⟨⟨by omega, fun y hy => k2 y (List.mem_cons_of_mem _ (List.mem_cons_of_mem _ hy)), rfl, fun i hi => ?_⟩, ?_, t⟩
  · have := k3 i (by omega)
    rw [eAt, if_neg (by simp only [List.length_cons]; omega), eAt, if_neg (by omega)] at this
    exact this
  · have := k3 st.length (by omega)
    rw [eAt, if_neg (by simp only [List.length_cons]; omega), eAt, if_pos rfl] at this
    exact this
theorem sM_join {s a b v : Int} {r : List Int} {h : jH} (K : eStm (b :: a :: r) h) (e : jjoin s a b = some v) : ∃ h', fM_qJoins (jz (-10 - s)) h = some h' ∧ eStm (v :: r) h' ∧ eFr eQS h h' := by
  obtain ⟨K2, ta, tb⟩ := eStm_pop2 K
  have kl := K.1
  have k3 := K.2.2.1
  have hs := jjoin_r e
  have hb := K.2.1 b (List.mem_cons_self ..)
  have ha := K.2.1 a (List.mem_cons_of_mem _ (List.mem_cons_self ..))
  have vb := jjoin_b ha hb e
  simp only [List.length_cons] at kl k3
  obtain ⟨h1, hh1⟩ : ∃ h1, h1 = jhI h 110 86 (jz r.length) := ⟨_, rfl⟩
  rw [← hh1] at K2
  have fr1 : eFr eQS h h1 := by rw [hh1]; exact eFr_I (eFr_refl _ _) (Or.inr ⟨rfl, rfl⟩) _
  refine ⟨ePsh r v h1, ?_, eStm_push K2 vb (by omega), eFr_trans fr1 (ePsh_fr _ _ _)⟩
  have P : ∀ x, fM_qPuts (jw x) h1 = some (ePsh r x h1) := fun x => sM_push (by omega) K2.2.2.1
  have e1 : h.1 110 86 - 1 = jz ((r.length : Int) + 1) := by
    rw [k3, show (1 : Int32) = jz 1 from rfl, jz_sub]
    congr 1
    omega
  have e2 : h.1 110 86 - 2 = jz (r.length : Int) := by
    rw [k3, show (2 : Int32) = jz 2 from rfl, jz_sub]
    congr 1
    omega
  have u1 : ((r.length : Int) + 1).toNat = r.length + 1 := by omega
  have p1 : -1000000000000 ≤ a * b ∧ a * b ≤ 1000000000000 := by
    have := Int.natAbs_mul a b
    have q := Nat.mul_le_mul (show a.natAbs ≤ 1000000 by omega) (show b.natAbs ≤ 1000000 by omega)
    omega
  have lm := sM_clip (v := a * b) (by omega) (by omega)
  have ls := sM_clip (v := a - b) (by omega) (by omega)
  have la := sM_clip (v := a + b) (by omega) (by omega)
  have lf := sM_floor (h := h1) ha hb
  have cases : s = -11 ∨ s = -12 ∨ s = -13 ∨ s = -14 ∨ s = -15 ∨ s = -16 ∨ s = -17 ∨ s = -18 ∨ s = -19 ∨ s = -20 ∨ s = -21 := by omega
  have st : fM_qJoins (jz (-10 - s)) h = (if jz (-10 - s) = 1 then fM_qPuts (fM_qClip (jw a + jw b)) h1 else if jz (-10 - s) = 2 then fM_qPuts (fM_qClip (jw a - jw b)) h1 else if jz (-10 - s) = 3 then fM_qPuts (fM_qClip (jw a * jw b)) h1 else if jz (-10 - s) = 4 then Option.bind (fM_qFloor (jw a) (jw b) h1) (fun z9 => fM_qPuts z9 h1) else if jz (-10 - s) = 5 then (if jw a < jw b then fM_qPuts (jw a) h1 else fM_qPuts (jw b) h1) else if jz (-10 - s) = 6 then (if jw b < jw a then fM_qPuts (jw a) h1 else fM_qPuts (jw b) h1) else if jz (-10 - s) = 7 then (if jw a < jw b then fM_qPuts (jw 1) h1 else fM_qPuts (jw 0) h1) else if jz (-10 - s) = 8 then (if jw b < jw a then fM_qPuts (jw 1) h1 else fM_qPuts (jw 0) h1) else if jz (-10 - s) = 9 then (if jw a = jw b then fM_qPuts (jw 1) h1 else fM_qPuts (jw 0) h1) else if jz (-10 - s) = 10 then fM_qPuts (jw a * jw b) h1 else if 0 < jw a + jw b then fM_qPuts (jw 1) h1 else fM_qPuts (jw 0) h1) := by
    unfold fM_qJoins fM_qJoins_j161 fM_qJoins_j181 fM_qJoins_j200 fM_qJoins_j219 fM_qJoins_j238 fM_qJoins_j270
    simp only [e1, e2, ← hh1, Option.bind_fun_some]
    rw [if_pos (by rw [jin_z (by omega) (by omega)]; omega), if_pos (by rw [jin_z (by omega) (by omega)]; omega), jz_ix (by omega) (by omega), jz_ix (by omega) (by omega), Int.toNat_natCast, u1, ta, tb]
    rfl
  rw [st]
  clear st
  unfold jjoin at e
  rcases cases with rfl | rfl | rfl | rfl | rfl | rfl | rfl | rfl | rfl | rfl | rfl
  · simp at e
    subst e
    simp (disch := omega) only [Bool.false_eq_true, jz_lit, jz_neg, jz_nat, jz_add, jz_sub, jz_mul, jz_lt, jz_le, jz_eq, jz_ix, jin_z, jz_div, jzw, jwz, jw_lit, jw_neg, jw_add, jw_sub, jw_mul, jw_lt, jw_le, jw_eq, jw_div, Int.toNat_natCast, if_pos, if_neg, if_true, if_false, Option.bind_some, Int.natCast_add, Int.natCast_mul, Int.cast_ofNat_Int, Int.reduceToNat, Int.reduceAdd, Int.reduceMul, Int.reduceSub, Int.reduceNeg, Nat.reduceAdd, Nat.reduceMul, la, P]
  · simp at e
    subst e
    simp (disch := omega) only [Bool.false_eq_true, jz_lit, jz_neg, jz_nat, jz_add, jz_sub, jz_mul, jz_lt, jz_le, jz_eq, jz_ix, jin_z, jz_div, jzw, jwz, jw_lit, jw_neg, jw_add, jw_sub, jw_mul, jw_lt, jw_le, jw_eq, jw_div, Int.toNat_natCast, if_pos, if_neg, if_true, if_false, Option.bind_some, Int.natCast_add, Int.natCast_mul, Int.cast_ofNat_Int, Int.reduceToNat, Int.reduceAdd, Int.reduceMul, Int.reduceSub, Int.reduceNeg, Nat.reduceAdd, Nat.reduceMul, ls, P]
  · simp at e
    subst e
    simp (disch := omega) only [Bool.false_eq_true, jz_lit, jz_neg, jz_nat, jz_add, jz_sub, jz_mul, jz_lt, jz_le, jz_eq, jz_ix, jin_z, jz_div, jzw, jwz, jw_lit, jw_neg, jw_add, jw_sub, jw_mul, jw_lt, jw_le, jw_eq, jw_div, Int.toNat_natCast, if_pos, if_neg, if_true, if_false, Option.bind_some, Int.natCast_add, Int.natCast_mul, Int.cast_ofNat_Int, Int.reduceToNat, Int.reduceAdd, Int.reduceMul, Int.reduceSub, Int.reduceNeg, Nat.reduceAdd, Nat.reduceMul, lm, P]
  · simp at e
    subst e
    simp (disch := omega) only [jz_lit, jz_eq, Int.reduceSub, Int.reduceNeg, if_neg, if_pos, if_true, if_false, lf, Option.bind_some, P]
  · simp at e
    subst e
    by_cases c : a < b
    · simp (disch := omega) only [Bool.false_eq_true, jz_lit, jz_neg, jz_nat, jz_add, jz_sub, jz_mul, jz_lt, jz_le, jz_eq, jz_ix, jin_z, jz_div, jzw, jwz, jw_lit, jw_neg, jw_add, jw_sub, jw_mul, jw_lt, jw_le, jw_eq, jw_div, Int.toNat_natCast, if_pos, if_neg, if_true, if_false, Option.bind_some, Int.natCast_add, Int.natCast_mul, Int.cast_ofNat_Int, Int.reduceToNat, Int.reduceAdd, Int.reduceMul, Int.reduceSub, Int.reduceNeg, Nat.reduceAdd, Nat.reduceMul, P]
    · simp (disch := omega) only [Bool.false_eq_true, jz_lit, jz_neg, jz_nat, jz_add, jz_sub, jz_mul, jz_lt, jz_le, jz_eq, jz_ix, jin_z, jz_div, jzw, jwz, jw_lit, jw_neg, jw_add, jw_sub, jw_mul, jw_lt, jw_le, jw_eq, jw_div, Int.toNat_natCast, if_pos, if_neg, if_true, if_false, Option.bind_some, Int.natCast_add, Int.natCast_mul, Int.cast_ofNat_Int, Int.reduceToNat, Int.reduceAdd, Int.reduceMul, Int.reduceSub, Int.reduceNeg, Nat.reduceAdd, Nat.reduceMul, P]
  · simp at e
    subst e
    by_cases c : b < a
    · simp (disch := omega) only [Bool.false_eq_true, jz_lit, jz_neg, jz_nat, jz_add, jz_sub, jz_mul, jz_lt, jz_le, jz_eq, jz_ix, jin_z, jz_div, jzw, jwz, jw_lit, jw_neg, jw_add, jw_sub, jw_mul, jw_lt, jw_le, jw_eq, jw_div, Int.toNat_natCast, if_pos, if_neg, if_true, if_false, Option.bind_some, Int.natCast_add, Int.natCast_mul, Int.cast_ofNat_Int, Int.reduceToNat, Int.reduceAdd, Int.reduceMul, Int.reduceSub, Int.reduceNeg, Nat.reduceAdd, Nat.reduceMul, P]
    · simp (disch := omega) only [Bool.false_eq_true, jz_lit, jz_neg, jz_nat, jz_add, jz_sub, jz_mul, jz_lt, jz_le, jz_eq, jz_ix, jin_z, jz_div, jzw, jwz, jw_lit, jw_neg, jw_add, jw_sub, jw_mul, jw_lt, jw_le, jw_eq, jw_div, Int.toNat_natCast, if_pos, if_neg, if_true, if_false, Option.bind_some, Int.natCast_add, Int.natCast_mul, Int.cast_ofNat_Int, Int.reduceToNat, Int.reduceAdd, Int.reduceMul, Int.reduceSub, Int.reduceNeg, Nat.reduceAdd, Nat.reduceMul, P]
  · simp at e
    subst e
    by_cases c : a < b
    · simp only [c, decide_true, jbool, if_true]
      simp (disch := omega) only [Bool.false_eq_true, jz_lit, jz_neg, jz_nat, jz_add, jz_sub, jz_mul, jz_lt, jz_le, jz_eq, jz_ix, jin_z, jz_div, jzw, jwz, jw_lit, jw_neg, jw_add, jw_sub, jw_mul, jw_lt, jw_le, jw_eq, jw_div, Int.toNat_natCast, if_pos, if_neg, if_true, if_false, Option.bind_some, Int.natCast_add, Int.natCast_mul, Int.cast_ofNat_Int, Int.reduceToNat, Int.reduceAdd, Int.reduceMul, Int.reduceSub, Int.reduceNeg, Nat.reduceAdd, Nat.reduceMul, P]
    · simp only [c, decide_false, jbool, if_false, Bool.false_eq_true]
      simp (disch := omega) only [Bool.false_eq_true, jz_lit, jz_neg, jz_nat, jz_add, jz_sub, jz_mul, jz_lt, jz_le, jz_eq, jz_ix, jin_z, jz_div, jzw, jwz, jw_lit, jw_neg, jw_add, jw_sub, jw_mul, jw_lt, jw_le, jw_eq, jw_div, Int.toNat_natCast, if_pos, if_neg, if_true, if_false, Option.bind_some, Int.natCast_add, Int.natCast_mul, Int.cast_ofNat_Int, Int.reduceToNat, Int.reduceAdd, Int.reduceMul, Int.reduceSub, Int.reduceNeg, Nat.reduceAdd, Nat.reduceMul, P]
  · simp at e
    subst e
    by_cases c : b < a
    · simp only [c, decide_true, jbool, if_true]
      simp (disch := omega) only [Bool.false_eq_true, jz_lit, jz_neg, jz_nat, jz_add, jz_sub, jz_mul, jz_lt, jz_le, jz_eq, jz_ix, jin_z, jz_div, jzw, jwz, jw_lit, jw_neg, jw_add, jw_sub, jw_mul, jw_lt, jw_le, jw_eq, jw_div, Int.toNat_natCast, if_pos, if_neg, if_true, if_false, Option.bind_some, Int.natCast_add, Int.natCast_mul, Int.cast_ofNat_Int, Int.reduceToNat, Int.reduceAdd, Int.reduceMul, Int.reduceSub, Int.reduceNeg, Nat.reduceAdd, Nat.reduceMul, P]
    · simp only [c, decide_false, jbool, if_false, Bool.false_eq_true]
      simp (disch := omega) only [Bool.false_eq_true, jz_lit, jz_neg, jz_nat, jz_add, jz_sub, jz_mul, jz_lt, jz_le, jz_eq, jz_ix, jin_z, jz_div, jzw, jwz, jw_lit, jw_neg, jw_add, jw_sub, jw_mul, jw_lt, jw_le, jw_eq, jw_div, Int.toNat_natCast, if_pos, if_neg, if_true, if_false, Option.bind_some, Int.natCast_add, Int.natCast_mul, Int.cast_ofNat_Int, Int.reduceToNat, Int.reduceAdd, Int.reduceMul, Int.reduceSub, Int.reduceNeg, Nat.reduceAdd, Nat.reduceMul, P]
  · simp at e
    subst e
    by_cases c : a = b
    · simp only [c, decide_true, jbool, if_true]
      simp (disch := omega) only [Bool.false_eq_true, jz_lit, jz_neg, jz_nat, jz_add, jz_sub, jz_mul, jz_lt, jz_le, jz_eq, jz_ix, jin_z, jz_div, jzw, jwz, jw_lit, jw_neg, jw_add, jw_sub, jw_mul, jw_lt, jw_le, jw_eq, jw_div, Int.toNat_natCast, if_pos, if_neg, if_true, if_false, Option.bind_some, Int.natCast_add, Int.natCast_mul, Int.cast_ofNat_Int, Int.reduceToNat, Int.reduceAdd, Int.reduceMul, Int.reduceSub, Int.reduceNeg, Nat.reduceAdd, Nat.reduceMul, P]
    · simp only [c, decide_false, jbool, if_false, Bool.false_eq_true]
      simp (disch := omega) only [Bool.false_eq_true, jz_lit, jz_neg, jz_nat, jz_add, jz_sub, jz_mul, jz_lt, jz_le, jz_eq, jz_ix, jin_z, jz_div, jzw, jwz, jw_lit, jw_neg, jw_add, jw_sub, jw_mul, jw_lt, jw_le, jw_eq, jw_div, Int.toNat_natCast, if_pos, if_neg, if_true, if_false, Option.bind_some, Int.natCast_add, Int.natCast_mul, Int.cast_ofNat_Int, Int.reduceToNat, Int.reduceAdd, Int.reduceMul, Int.reduceSub, Int.reduceNeg, Nat.reduceAdd, Nat.reduceMul, P]
  · by_cases c : (a = 0 ∨ a = 1) ∧ (b = 0 ∨ b = 1)
    · simp [c] at e
      subst e
      simp (disch := omega) only [Bool.false_eq_true, jz_lit, jz_neg, jz_nat, jz_add, jz_sub, jz_mul, jz_lt, jz_le, jz_eq, jz_ix, jin_z, jz_div, jzw, jwz, jw_lit, jw_neg, jw_add, jw_sub, jw_mul, jw_lt, jw_le, jw_eq, jw_div, Int.toNat_natCast, if_pos, if_neg, if_true, if_false, Option.bind_some, Int.natCast_add, Int.natCast_mul, Int.cast_ofNat_Int, Int.reduceToNat, Int.reduceAdd, Int.reduceMul, Int.reduceSub, Int.reduceNeg, Nat.reduceAdd, Nat.reduceMul, P]
    · simp [c] at e
  · by_cases c : (a = 0 ∨ a = 1) ∧ (b = 0 ∨ b = 1)
    · simp [c] at e
      subst e
      by_cases c2 : 0 < a + b
      · simp (disch := omega) only [Bool.false_eq_true, jz_lit, jz_neg, jz_nat, jz_add, jz_sub, jz_mul, jz_lt, jz_le, jz_eq, jz_ix, jin_z, jz_div, jzw, jwz, jw_lit, jw_neg, jw_add, jw_sub, jw_mul, jw_lt, jw_le, jw_eq, jw_div, Int.toNat_natCast, if_pos, if_neg, if_true, if_false, Option.bind_some, Int.natCast_add, Int.natCast_mul, Int.cast_ofNat_Int, Int.reduceToNat, Int.reduceAdd, Int.reduceMul, Int.reduceSub, Int.reduceNeg, Nat.reduceAdd, Nat.reduceMul, P]
      · simp (disch := omega) only [Bool.false_eq_true, jz_lit, jz_neg, jz_nat, jz_add, jz_sub, jz_mul, jz_lt, jz_le, jz_eq, jz_ix, jin_z, jz_div, jzw, jwz, jw_lit, jw_neg, jw_add, jw_sub, jw_mul, jw_lt, jw_le, jw_eq, jw_div, Int.toNat_natCast, if_pos, if_neg, if_true, if_false, Option.bind_some, Int.natCast_add, Int.natCast_mul, Int.cast_ofNat_Int, Int.reduceToNat, Int.reduceAdd, Int.reduceMul, Int.reduceSub, Int.reduceNeg, Nat.reduceAdd, Nat.reduceMul, P]
    · simp [c] at e
section EM2
variable {g : Nat} {D S : jD} {L : List Int} {h : jH}
/-- the reference's word for a step of a late SUM -/
theorem sM_part {k : Nat} {s : Int} (b : bV g D) (m : mV g D h) (bs : bS g S) (ms : mS S h) (hk : k < g) (ha : S 1 k ≠ 0) (hs : -7 ≤ s ∧ s ≤ -4) : fM_qPartOf (jz (jcode s - 40)) (jz k) h = some (jw (eLe D k (S 2 k) (-1 - s).toNat)) := by
  have b0 := b.1
  have b3 := b.2.2.2.1 k hk
  have b4 := bs.2.2.2.2 k (by omega)
  have m3 := (m.2.2.2.1 k hk).2.2.2
  have u : ((35 : Int) + 4 * (k : Int)).toNat = 35 + 4 * k := by omega
  unfold fM_qPartOf
  have : s = -4 ∨ s = -5 ∨ s = -6 ∨ s = -7 := by omega
  rcases this with rfl | rfl | rfl | rfl
  · rw [show jcode (-4) - 40 = 2 by decide]
    show _ = some (jw (D 4 k))
    simp (disch := omega) only [Bool.false_eq_true, jz_lit, jz_neg, jz_nat, jz_add, jz_sub, jz_mul, jz_lt, jz_le, jz_eq, jz_ix, jin_z, jz_div, jzw, jwz, jw_lit, jw_neg, jw_add, jw_sub, jw_mul, jw_lt, jw_le, jw_eq, jw_div, Int.toNat_natCast, if_pos, if_neg, if_true, if_false, Option.bind_some, Int.natCast_add, Int.natCast_mul, Int.cast_ofNat_Int, Int.reduceToNat, Int.reduceAdd, Int.reduceMul, Int.reduceSub, Int.reduceNeg, Nat.reduceAdd, Nat.reduceMul, sM_joyOf b m hk]
  · rw [show jcode (-5) - 40 = 1 by decide]
    show _ = some (jw (D 6 k))
    simp (disch := omega) only [Bool.false_eq_true, jz_lit, jz_neg, jz_nat, jz_add, jz_sub, jz_mul, jz_lt, jz_le, jz_eq, jz_ix, jin_z, jz_div, jzw, jwz, jw_lit, jw_neg, jw_add, jw_sub, jw_mul, jw_lt, jw_le, jw_eq, jw_div, Int.toNat_natCast, if_pos, if_neg, if_true, if_false, Option.bind_some, Int.natCast_add, Int.natCast_mul, Int.cast_ofNat_Int, Int.reduceToNat, Int.reduceAdd, Int.reduceMul, Int.reduceSub, Int.reduceNeg, Nat.reduceAdd, Nat.reduceMul, u, m3]
  · rw [show jcode (-6) - 40 = 3 by decide]
    show _ = some (jw (D 5 k))
    simp (disch := omega) only [Bool.false_eq_true, jz_lit, jz_neg, jz_nat, jz_add, jz_sub, jz_mul, jz_lt, jz_le, jz_eq, jz_ix, jin_z, jz_div, jzw, jwz, jw_lit, jw_neg, jw_add, jw_sub, jw_mul, jw_lt, jw_le, jw_eq, jw_div, Int.toNat_natCast, if_pos, if_neg, if_true, if_false, Option.bind_some, Int.natCast_add, Int.natCast_mul, Int.cast_ofNat_Int, Int.reduceToNat, Int.reduceAdd, Int.reduceMul, Int.reduceSub, Int.reduceNeg, Nat.reduceAdd, Nat.reduceMul, sM_sizeOf b m hk]
  · rw [show jcode (-7) - 40 = 0 by decide]
    show _ = some (jw (S 2 k))
    simp (disch := omega) only [Bool.false_eq_true, jz_lit, jz_neg, jz_nat, jz_add, jz_sub, jz_mul, jz_lt, jz_le, jz_eq, jz_ix, jin_z, jz_div, jzw, jwz, jw_lit, jw_neg, jw_add, jw_sub, jw_mul, jw_lt, jw_le, jw_eq, jw_div, Int.toNat_natCast, if_pos, if_neg, if_true, if_false, Option.bind_some, Int.natCast_add, Int.natCast_mul, Int.cast_ofNat_Int, Int.reduceToNat, Int.reduceAdd, Int.reduceMul, Int.reduceSub, Int.reduceNeg, Nat.reduceAdd, Nat.reduceMul, sM_isAsked ms bs (show k < 8 by omega), sM_weeksOf ms (show k < 8 by omega)]
theorem sM_lrun {k : Nat} {h0 : jH} {r : List Int} (b : bV g D) (m : mV g D h0) (bs : bS g S) (ms : mS S h0) (l : L.length ≤ 1600) (l2 : h0.1 146 1 = jz L.length) (l3 : ∀ j, j < L.length → h0.1 147 (1600 + j) = jz (jcode (L.getD j 0)) ∧ -17 < L.getD j 0 ∧ L.getD j 0 ≤ 9999 ∧ (L.getD j 0 < 0 → L.getD j 0 ≤ -4)) (hk : k < g) (ha : S 1 k ≠ 0) : ∀ (n i : Nat), i + n = L.length → ∀ (st : List Int) (h : jH), eFr eQS h0 h → eStm st h → jrun (eLe D k (S 2 k)) (fun _ => 0) (L.drop i) st = some r → ∃ h', jlim (fM_lateBy_l29 (jz k)) (jz i, h) = some h' ∧ eStm r h' ∧ eFr eQS h0 h' := by
  have b0 := b.1
  have b4 := bs.2.2.2.2 k (by omega)
  have hE := eLe_E b hk (show 0 ≤ S 2 k ∧ S 2 k ≤ 999 by omega)
  intro n
  induction n with
  | zero =>
    intro i hi st h f K e
    have hi' : i = L.length := by omega
    subst hi'
    rw [List.drop_length] at e
    unfold jrun at e
    cases e
    refine ⟨h, ?_, K, f⟩
    have l2' : h.1 146 1 = jz L.length := by rw [f.1 _ _ (by unfold eQS; omega)]; exact l2
    rw [jlim_eq]
    simp only [fM_lateBy_l29, fM_lateBy_l29_b]
    simp (disch := omega) only [Bool.false_eq_true, jz_lit, jz_neg, jz_nat, jz_add, jz_sub, jz_mul, jz_lt, jz_le, jz_eq, jz_ix, jin_z, jz_div, jzw, jwz, jw_lit, jw_neg, jw_add, jw_sub, jw_mul, jw_lt, jw_le, jw_eq, jw_div, Int.toNat_natCast, if_pos, if_neg, if_true, if_false, Option.bind_some, Int.natCast_add, Int.natCast_mul, Int.cast_ofNat_Int, Int.reduceToNat, Int.reduceAdd, Int.reduceMul, Int.reduceSub, Int.reduceNeg, Nat.reduceAdd, Nat.reduceMul, l2']
  | succ n ih =>
    intro i hi st h f K e
    rw [eDrop (by omega)] at e
    obtain ⟨st', e1, e2⟩ := jrun_cons e
    have l2' : h.1 146 1 = jz L.length := by rw [f.1 _ _ (by unfold eQS; omega)]; exact l2
    obtain ⟨q1, q2, q3, q4⟩ := l3 i (by omega)
    have q1' : h.1 147 (1600 + i) = jz (jcode (L.getD i 0)) := by rw [f.1 _ _ (by unfold eQS; omega)]; exact q1
    have m' : mV g D h := mV_fr (fun o k hk => f.1 o k (by unfold eQS; omega)) m
    have ms' : mS S h := mS_fr (fun k => f.1 _ k (by unfold eQS; omega)) ms
    have u : ((1600 : Int) + (i : Int)).toNat = 1600 + i := by omega
    have ei : jz (i : Int) + 1 = jz ((i + 1 : Nat) : Int) := by rw [show (1 : Int32) = jz 1 from rfl, jz_add]; rfl
    obtain ⟨s, hs'⟩ : ∃ s, L.getD i 0 = s := ⟨_, rfl⟩
    rw [hs'] at e1 q1' q2 q3 q4
    have kl := K.1
    have stp : ∃ h1, fM_lateBy_l29 (jz k) (jz i, h) = some (.inl (jz ((i + 1 : Nat) : Int), h1)) ∧ eStm st' h1 ∧ eFr eQS h h1 := by
      have hd : fM_lateBy_l29 (jz k) (jz i, h) = (if jz (jcode s) < 1000 then (if jz (jcode s) < 40 then Option.bind (fM_qJoins (jz (jcode s)) h) (fun z9 => some (.inl (jz i + 1, z9))) else Option.bind (fM_qPartOf (jz (jcode s) - 40) (jz k) h) (fun z10 => Option.bind (fM_qPuts z10 h) (fun z11 => some (.inl (jz i + 1, z11))))) else Option.bind (fM_qPuts (jz (jcode s) - 1000).toInt64 h) (fun z12 => some (.inl (jz i + 1, z12)))) := by
        simp only [fM_lateBy_l29, fM_lateBy_l29_b, fM_lateBy_l29_j97]
        simp (disch := omega) only [Bool.false_eq_true, jz_lit, jz_neg, jz_nat, jz_add, jz_sub, jz_mul, jz_lt, jz_le, jz_eq, jz_ix, jin_z, jz_div, jzw, jwz, jw_lit, jw_neg, jw_add, jw_sub, jw_mul, jw_lt, jw_le, jw_eq, jw_div, Int.toNat_natCast, if_pos, if_neg, if_true, if_false, Option.bind_some, Int.natCast_add, Int.natCast_mul, Int.cast_ofNat_Int, Int.reduceToNat, Int.reduceAdd, Int.reduceMul, Int.reduceSub, Int.reduceNeg, Nat.reduceAdd, Nat.reduceMul, l2', u, q1']
      unfold jsstep at e1
      by_cases c0 : 0 ≤ s
      · rw [if_pos c0] at e1
        by_cases c1 : st.length < 64 ∧ s ≤ 9999
        · rw [if_pos c1] at e1
          cases e1
          refine ⟨ePsh st s h, ?_, eStm_push K (by omega) c1.1, ePsh_fr _ _ _⟩
          have jc : jcode s = 1000 + s := by unfold jcode; rw [if_pos c0]
          have P := sM_push (x := s) c1.1 K.2.2.1
          have u2 : (1000 + s - 1000) = s := by omega
          rw [hd, ← ei, jc]
          simp (disch := omega) only [jz_lit, jz_lt, if_neg, jz_sub, jzw, u2, P, Option.bind_some]
        · rw [if_neg c1] at e1; cases e1
      rw [if_neg c0] at e1
      by_cases c1 : -7 ≤ s
      · rw [if_pos c1] at e1
        by_cases c2 : st.length < 64
        · rw [if_pos c2] at e1
          cases e1
          have hv := hE.1 (-1 - s).toNat
          refine ⟨ePsh st (eLe D k (S 2 k) (-1 - s).toNat) h, ?_, eStm_push K (by omega) c2, ePsh_fr _ _ _⟩
          have P := sM_push (x := eLe D k (S 2 k) (-1 - s).toNat) c2 K.2.2.1
          have hp := sM_part b m' bs ms' hk ha (s := s) (by omega)
          have jc : 40 ≤ jcode s ∧ jcode s ≤ 43 := by
            have : s = -4 ∨ s = -5 ∨ s = -6 ∨ s = -7 := by omega
            rcases this with rfl | rfl | rfl | rfl <;> decide
          rw [hd, ← ei]
          simp (disch := omega) only [jz_lit, jz_lt, if_pos, if_neg, jz_sub, hp, Option.bind_some, P]
        · rw [if_neg c2] at e1; cases e1
      rw [if_neg c1, if_neg (by omega), if_neg (by omega)] at e1
      match st, K, e1, kl with
      | [], _, e1, _ => cases e1
      | [_], _, e1, _ => cases e1
      | y :: x :: r', K, e1, kl =>
        dsimp only at e1
        obtain ⟨v, e3, e4⟩ := Option.map_eq_some_iff.mp e1
        subst e4
        obtain ⟨h1, e5, K1, f1⟩ := sM_join K e3
        have rg := jjoin_r e3
        refine ⟨h1, ?_, K1, f1⟩
        have jc : jcode s = -10 - s := by
          unfold jcode
          simp (disch := omega) only [if_neg]
        rw [hd, ← ei, jc]
        simp (disch := omega) only [jz_lit, jz_lt, if_pos, e5, Option.bind_some]
    obtain ⟨h1, e3, K1, f1⟩ := stp
    obtain ⟨h2, e4, K2, f2⟩ := ih (i + 1) (by omega) st' h1 (eFr_trans f f1) K1 e2
    exact ⟨h2, by rw [jlim_eq, e3]; exact e4, K2, f2⟩
/-- what the reference writes as it weighs a card -/
def eLf (o k : Nat) : Prop := o = 175 ∨ (o = 110 ∧ (k = 49 ∨ k = 86))
theorem eLf_m {h' : jH} (a : eFr eLf h h') (m : mV g D h) : mV g D h' := mV_fr (fun o k hk => a.1 o k (by unfold eLf; omega)) m
theorem eLf_ms {h' : jH} (a : eFr eLf h h') (m : mS S h) : mS S h' := mS_fr (fun k => a.1 _ k (by unfold eLf; omega)) m
theorem eLf_l {p d : Nat} {h' : jH} (hpd : iPD p d) (a : eFr eLf h h') (c : jLt p L h) : jLt p L h' := jLt_fr (fun o k hk => a.1 o k (by unfold eLf; unfold iPD at hpd; omega)) c
theorem sM_lateBy {p k : Nat} (b : bV g D) (m : mV g D h) (bs : bS g S) (ms : mS S h) (l : jLt p L h) (hk : k < g) (ha : S 1 k ≠ 0) : ∃ h', fM_lateBy (jz k) h = some (jw (eLate D L k (S 2 k)), h') ∧ eFr eLf h h' := by
  have b0 := b.1
  have b4 := bs.2.2.2.2 k (by omega)
  obtain ⟨l1, -, -, l4, l5⟩ := l
  unfold fM_lateBy
  by_cases hne : L = []
  · have l6 := l4 hne
    refine ⟨h, ?_, eFr_refl _ _⟩
    rw [hne, eLate_nil]
    simp (disch := omega) only [Bool.false_eq_true, jz_lit, jz_neg, jz_nat, jz_add, jz_sub, jz_mul, jz_lt, jz_le, jz_eq, jz_ix, jin_z, jz_div, jzw, jwz, jw_lit, jw_neg, jw_add, jw_sub, jw_mul, jw_lt, jw_le, jw_eq, jw_div, Int.toNat_natCast, if_pos, if_neg, if_true, if_false, Option.bind_some, Int.natCast_add, Int.natCast_mul, Int.cast_ofNat_Int, Int.reduceToNat, Int.reduceAdd, Int.reduceMul, Int.reduceSub, Int.reduceNeg, Nat.reduceAdd, Nat.reduceMul, l6]
    first | done | rfl
  · obtain ⟨l6, l7, l8, l9⟩ := l5 hne
    have hE := eLe_E b hk (show 0 ≤ S 2 k ∧ S 2 k ≤ 999 by omega)
    have rw1 := eRun_wf l6 hE
    obtain ⟨h1, hh1⟩ : ∃ h1, h1 = jhI (jhI h 110 49 (jz 1)) 110 86 (jz 0) := ⟨_, rfl⟩
    have fr1 : eFr eLf h h1 := by rw [hh1]; exact eFr_I (eFr_I (eFr_refl _ _) (by unfold eLf; omega) _) (by unfold eLf; omega) _
    have K0 : eStm [] h1 := ⟨by simp, by simp, by rw [hh1]; rfl, by simp⟩
    obtain ⟨h2, e2, K2, f2⟩ := sM_lrun (h0 := h1) b (eLf_m fr1 m) bs (eLf_ms fr1 ms) l1 (by rw [fr1.1 _ _ (by unfold eLf; omega)]; exact l8) (fun j hj => by rw [fr1.1 _ _ (by unfold eLf; omega)]; exact l9 j hj) hk ha L.length 0 (by omega) [] h1 (eFr_refl _ _) K0 rw1.2.2
    have tp : h2.2 175 0 = jw (eRun (eLe D k (S 2 k)) L) := eStm_top K2
    refine ⟨h2, ?_, eFr_trans fr1 (eFr_mono f2 (fun o k hk => by unfold eQS at hk; unfold eLf; omega))⟩
    have l10 : h1.1 145 1 = jz 0 := by rw [fr1.1 _ _ (by unfold eLf; omega), l7]; rfl
    have e2' : jlim (fM_lateBy_l29 (jz k)) (jz 0, h1) = some h2 := e2
    unfold eLate
    have rb := rw1.1
    have rb2 := rw1.2.1
    generalize eRun (eLe D k (S 2 k)) L = v at *
    have g1 : jin 1 2 := by decide
    have g2 : jin 0 1700 := by decide
    have g3 : ¬ h.1 145 (1 : Int32).toNatClampNeg = -1 := by
      show ¬ h.1 145 1 = -1
      rw [l7]; decide
    have g4 : h2.2 175 (0 : Int32).toNatClampNeg = jw v := tp
    have g5 : h1.1 145 (1 : Int32).toNatClampNeg = jz 0 := l10
    have g6 : jhI (jhI h 110 49 1) 110 86 0 = h1 := hh1.symm
    rw [if_pos g1, if_neg g3, if_pos g1, g6, g5, e2', Option.bind_some, if_pos g2, g4, if_pos g2, if_pos g2]
    by_cases c1 : v < 0
    · rw [if_pos (by rw [show (0 : Int64) = jw 0 from rfl, jw_lt (by omega) (by omega) (by omega) (by omega)]; exact c1), if_pos c1]
      rfl
    · rw [if_neg (by rw [show (0 : Int64) = jw 0 from rfl, jw_lt (by omega) (by omega) (by omega) (by omega)]; exact c1), if_neg c1]
      by_cases c2 : 999 < v
      · rw [if_pos (by rw [show (999 : Int64) = jw 999 from rfl, jw_lt (by omega) (by omega) (by omega) (by omega)]; exact c2), if_pos c2]
        rfl
      · rw [if_neg (by rw [show (999 : Int64) = jw 999 from rfl, jw_lt (by omega) (by omega) (by omega) (by omega)]; exact c2), if_neg c2]
end EM2
