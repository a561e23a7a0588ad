/-! the value of a SUM: the class's run over the steps -/
theorem eFr_1 {w k : Nat} {h h1 : jH} (a : eFr (fun o _ => o = w) h h1) (v : Int32) : eFr (fun o _ => o = w) h (jhI h1 w k v) := eFr_I (S := fun o _ => o = w) a rfl v
/-- what lies at i of a stack -/
def eAt : List Int → Nat → Int
  | [], _ => 0
  | x :: r, i => if i = r.length then x else eAt r i
/-- the stack of a SUM as the class holds it -/
def eStk (o : Nat) (st : List Int) (h : jH) : Prop := st.length ≤ 64 ∧ (∀ x ∈ st, -1000000 ≤ x ∧ x ≤ 1000000) ∧ ∀ i, i < st.length → h.1 (o + 2) i = jz (eAt st i)
theorem eStk_pop {o : Nat} {st : List Int} {b : Int} {h : jH} (K : eStk o (b :: st) h) : eStk o st h := by
  obtain ⟨k1, k2, k3⟩ := K
  simp only [List.length_cons] at k1 k3
  refine ⟨by omega, fun y hy => k2 y (List.mem_cons_of_mem _ hy), fun i hi => ?_⟩
  have := k3 i (by omega)
  rw [eAt, if_neg (by omega)] at this
  exact this
theorem eStk_top {o : Nat} {st : List Int} {b : Int} {h : jH} (K : eStk o (b :: st) h) : h.1 (o + 2) st.length = jz b := by
  have := K.2.2 st.length (by simp)
  rw [eAt, if_pos rfl] at this
  exact this
theorem eStk_bd {o : Nat} {st : List Int} {b : Int} {h : jH} (K : eStk o (b :: st) h) : -1000000 ≤ b ∧ b ≤ 1000000 := K.2.1 b (List.mem_cons_self ..)
theorem eStk_push {o : Nat} {st : List Int} {h : jH} {x : Int} (K : eStk o st h) (hx : -1000000 ≤ x ∧ x ≤ 1000000) (hl : st.length < 64) : eStk o (x :: st) (jhI h (o + 2) st.length (jz x)) := by
  refine ⟨by simp only [List.length_cons]; omega, ?_, ?_⟩
  · intro y hy
    rcases List.mem_cons.mp hy with rfl | hy
    · exact hx
    · exact K.2.1 y hy
  · intro i hi
    rw [jhI_1, eAt]
    simp only [List.length_cons] at hi
    by_cases c : i = st.length
    · rw [if_pos ⟨rfl, c⟩, if_pos c]
    · rw [if_neg (fun t => c t.2), if_neg c]
      exact K.2.2 i (by omega)
theorem jclip_b (v : Int) : -1000000 ≤ jclip v ∧ jclip v ≤ 1000000 := by
  unfold jclip
  split
  · omega
  · split <;> omega
theorem jbool_b (b : Bool) : -1000000 ≤ jbool b ∧ jbool b ≤ 1000000 := by
  cases b <;> decide
theorem jjoin_b {s a b v : Int} (h1 : -1000000 ≤ a ∧ a ≤ 1000000) (h2 : -1000000 ≤ b ∧ b ≤ 1000000) (e : jjoin s a b = some v) : -1000000 ≤ v ∧ v ≤ 1000000 := by
  unfold jjoin at e
  by_cases c11 : s = -11
  · rw [if_pos c11] at e
    cases e; exact jclip_b _
  rw [if_neg c11] at e
  by_cases c12 : s = -12
  · rw [if_pos c12] at e
    cases e; exact jclip_b _
  rw [if_neg c12] at e
  by_cases c13 : s = -13
  · rw [if_pos c13] at e
    cases e; exact jclip_b _
  rw [if_neg c13] at e
  by_cases c14 : s = -14
  · rw [if_pos c14] at e
    cases e
    by_cases hb : b = 0
    · rw [if_pos hb]; omega
    · rw [if_neg hb]
      rw [jfdiv hb]
      have n := Int.natAbs_tdiv_le_natAbs a b
      split
      · rename_i c
        have m : a.tdiv b * b + a.tmod b = a := by rw [Int.mul_comm]; exact Int.mul_tdiv_add_tmod a b
        by_cases t : a.tdiv b = -1000000
        · exfalso
          have m2 := Int.natAbs_tmod a b
          have m3 := Nat.mod_lt a.natAbs (show 0 < b.natAbs by omega)
          have ha : a = -1000000 ∨ a = 1000000 := by omega
          have hb2 : b = 1 ∨ b = -1 ∨ 2 ≤ b.natAbs := by omega
          rcases hb2 with rfl | rfl | hb2
          · rw [Int.tdiv_one] at c; omega
          · rw [t] at c; omega
          · have h3 : (a.tdiv b).natAbs = a.natAbs / b.natAbs := Int.natAbs_tdiv a b
            have h4 : a.natAbs / b.natAbs ≤ a.natAbs / 2 := Nat.div_le_div_left hb2 (by omega)
            omega
        · omega
      · omega
  rw [if_neg c14] at e
  by_cases c15 : s = -15
  · rw [if_pos c15] at e
    cases e; split <;> omega
  rw [if_neg c15] at e
  by_cases c16 : s = -16
  · rw [if_pos c16] at e
    cases e; split <;> omega
  rw [if_neg c16] at e
  by_cases c17 : s = -17
  · rw [if_pos c17] at e
    cases e; exact jbool_b _
  rw [if_neg c17] at e
  by_cases c18 : s = -18
  · rw [if_pos c18] at e
    cases e; exact jbool_b _
  rw [if_neg c18] at e
  by_cases c19 : s = -19
  · rw [if_pos c19] at e
    cases e; exact jbool_b _
  rw [if_neg c19] at e
  by_cases c20 : s = -20
  · rw [if_pos c20] at e
    by_cases c : (a = 0 ∨ a = 1) ∧ (b = 0 ∨ b = 1)
    · rw [if_pos c] at e
      cases e
      obtain ⟨rfl | rfl, rfl | rfl⟩ := c <;> omega
    · rw [if_neg c] at e; cases e
  rw [if_neg c20] at e
  by_cases c21 : s = -21
  · rw [if_pos c21] at e
    by_cases c : (a = 0 ∨ a = 1) ∧ (b = 0 ∨ b = 1)
    · rw [if_pos c] at e
      cases e; split <;> omega
    · rw [if_neg c] at e; cases e
  rw [if_neg c21] at e
  cases e
theorem jjoin_r {s a b v : Int} (e : jjoin s a b = some v) : -21 ≤ s ∧ s ≤ -11 := by
  unfold jjoin at e
  by_cases c11 : s = -11
  · omega
  rw [if_neg c11] at e
  by_cases c12 : s = -12
  · omega
  rw [if_neg c12] at e
  by_cases c13 : s = -13
  · omega
  rw [if_neg c13] at e
  by_cases c14 : s = -14
  · omega
  rw [if_neg c14] at e
  by_cases c15 : s = -15
  · omega
  rw [if_neg c15] at e
  by_cases c16 : s = -16
  · omega
  rw [if_neg c16] at e
  by_cases c17 : s = -17
  · omega
  rw [if_neg c17] at e
  by_cases c18 : s = -18
  · omega
  rw [if_neg c18] at e
  by_cases c19 : s = -19
  · omega
  rw [if_neg c19] at e
  by_cases c20 : s = -20
  · omega
  rw [if_neg c20] at e
  by_cases c21 : s = -21
  · omega
  rw [if_neg c21] at e
  cases e
theorem sFo_fact {E : Nat → Int} {h : jH} {k : Nat} (hk : k < 7) (e : h.1 82 k = jz (E k)) : fFo_factAt 82 (jz (k : Int)) h = some (jz (E k)) := by
  unfold fFo_factAt
  rw [jss_82]
  simp (disch := omega) only [Bool.false_eq_true, jz_lit, jz_neg, jz_nat, jz_add, jz_sub, jz_mul, jz_lt, jz_le, jz_eq, jz_ix, jin_z, jz_div, jzw, jwz, jw_lit, jw_neg, jw_add, jw_sub, jw_mul, jw_lt, jw_le, jw_eq, jw_div, Int.toNat_natCast, if_pos, if_neg, if_true, if_false, Option.bind_some, Int.natCast_add, Int.natCast_mul, Int.cast_ofNat_Int, Int.reduceToNat, Int.reduceAdd, Int.reduceMul, Int.reduceSub, Int.reduceNeg, Nat.reduceAdd, Nat.reduceMul, e]
theorem sFo_fact0 {h : jH} {x : Int32} (e : h.1 82 0 = x) : fFo_factAt 82 0 h = some x := by
  unfold fFo_factAt
  rw [jss_82]
  simp (disch := omega) only [Bool.false_eq_true, jz_lit, jz_neg, jz_nat, jz_add, jz_sub, jz_mul, jz_lt, jz_le, jz_eq, jz_ix, jin_z, jz_div, jzw, jwz, jw_lit, jw_neg, jw_add, jw_sub, jw_mul, jw_lt, jw_le, jw_eq, jw_div, Int.toNat_natCast, if_pos, if_neg, if_true, if_false, Option.bind_some, Int.natCast_add, Int.natCast_mul, Int.cast_ofNat_Int, Int.reduceToNat, Int.reduceAdd, Int.reduceMul, Int.reduceSub, Int.reduceNeg, Nat.reduceAdd, Nat.reduceMul, e]
theorem sFo_not {v : Int} {v2 : Nat} {h : jH} (e : v = 0 ∨ v = 1) : fFo_turned (jz (-22)) (jz v) 82 v2 h = some (jz (1 - v)) := by
  unfold fFo_turned
  rcases e with rfl | rfl <;> rfl
theorem eLen2 {α : Type} (a b : α) (r : List α) : (jz (((a :: b :: r).length : Nat) : Int)) + (-1) = jz (((b :: r).length : Nat) : Int) ∧ (jz (((b :: r).length : Nat) : Int)) - 1 = jz ((r.length : Nat) : Int) := by
  simp only [List.length_cons]
  constructor
  · rw [show (-1 : Int32) = jz (-1) from rfl, jz_add]
    congr 1
    omega
  · rw [show (1 : Int32) = jz 1 from rfl, jz_sub]
    congr 1
    omega
theorem eStk_wr {o : Nat} {st : List Int} {x y : Int} {h : jH} (K : eStk o (y :: st) h) (hx : -1000000 ≤ x ∧ x ≤ 1000000) : eStk o (x :: st) (jhI h (o + 2) st.length (jz x)) :=
  eStk_push (eStk_pop K) hx (by have := K.1; simp only [List.length_cons] at this; omega)
theorem sFo_step {o v2 i : Nat} {L : List Int} {E : Nat → Int} {F : Int → Int} {st st' : List Int} {h : jH} (ho : (jsh (o + 2)).2 = 64) (hL : L.length ≤ 1600) (hc : h.1 o 2 = jz L.length) (hs : ∀ j, j < L.length → h.1 (o + 1) j = jz (L.getD j 0)) (hi : i < L.length) (hE : jEb E F) (hf : ∀ k, k < 7 → h.1 82 k = jz (E k)) (hF : L.getD i 0 = -23 → ∀ v, -1000000 ≤ v → v ≤ 1000000 → fFo_turned (jz (-23)) (jz v) 82 v2 h = some (jz (F v))) (K : eStk o st h) (e : jsstep E F (L.getD i 0) st = some st') : ∃ h', fFo_valueFor_l5 o 82 v2 (jz st.length, jz i, h) = some (.inl (jz st'.length, jz ((i + 1 : Nat) : Int), h')) ∧ eStk o st' h' ∧ eFr (fun o' _ => o' = o + 2) h h' := by
  have hsi := hs i hi
  obtain ⟨s, hs'⟩ : ∃ s, L.getD i 0 = s := ⟨_, rfl⟩
  rw [hs'] at e hsi hF
  have kl := K.1
  have ei : jz (i : Int) + 1 = jz ((i + 1 : Nat) : Int) := by rw [show (1 : Int32) = jz 1 from rfl, jz_add]; rfl
  unfold jsstep at e
  by_cases c0 : 0 ≤ s
  · rw [if_pos c0] at e
    by_cases c1 : st.length < 64 ∧ s ≤ 9999
    · rw [if_pos c1] at e
      cases e
      refine ⟨jhI h (o + 2) st.length (jz s), ?_, eStk_push K (by omega) c1.1, eFr_1 (eFr_refl _ _) _⟩
      have el : jz (st.length : Int) + 1 = jz (((s :: st).length : Nat) : Int) := by rw [show (1 : Int32) = jz 1 from rfl, jz_add]; rfl
      rw [← ei, ← el]
      simp only [fFo_valueFor_l5, fFo_valueFor_l5_b, fFo_valueFor_l5_j72, fFo_valueFor_l5_j152, ho]
      simp (disch := omega) only [Bool.false_eq_true, jz_lit, jz_neg, jz_nat, jz_add, jz_sub, jz_mul, jz_lt, jz_le, jz_eq, jz_ix, jin_z, jz_div, jzw, jwz, jw_lit, jw_neg, jw_add, jw_sub, jw_mul, jw_lt, jw_le, jw_eq, jw_div, Int.toNat_natCast, if_pos, if_neg, if_true, if_false, Option.bind_some, Int.natCast_add, Int.natCast_mul, Int.cast_ofNat_Int, Int.reduceToNat, Int.reduceAdd, Int.reduceMul, Int.reduceSub, Int.reduceNeg, Nat.reduceAdd, Nat.reduceMul, hc, hsi]
    · rw [if_neg c1] at e; cases e
  rw [if_neg c0] at e
  by_cases c1 : -7 ≤ s
  · rw [if_pos c1] at e
    by_cases c2 : st.length < 64
    · rw [if_pos c2] at e
      cases e
      obtain ⟨k, rfl⟩ : ∃ k : Nat, s = -1 - (k : Int) := ⟨(-1 - s).toNat, by omega⟩
      have ek : (-1 - (-1 - (k : Int))).toNat = k := by omega
      have ek2 : (-1 - (-1 - (k : Int))) = k := by omega
      rw [ek]
      have hk := hE.1 k
      refine ⟨jhI h (o + 2) st.length (jz (E k)), ?_, eStk_push K (by omega) c2, eFr_1 (eFr_refl _ _) _⟩
      have el : jz (st.length : Int) + 1 = jz (((E k :: st).length : Nat) : Int) := by rw [show (1 : Int32) = jz 1 from rfl, jz_add]; rfl
      have fa := sFo_fact (h := h) (show k < 7 by omega) (hf k (by omega))
      rw [← ei, ← el]
      simp only [fFo_valueFor_l5, fFo_valueFor_l5_b, fFo_valueFor_l5_j72, fFo_valueFor_l5_j152, ho]
      simp (disch := omega) only [Bool.false_eq_true, jz_lit, jz_neg, jz_nat, jz_add, jz_sub, jz_mul, jz_lt, jz_le, jz_eq, jz_ix, jin_z, jz_div, jzw, jwz, jw_lit, jw_neg, jw_add, jw_sub, jw_mul, jw_lt, jw_le, jw_eq, jw_div, Int.toNat_natCast, if_pos, if_neg, if_true, if_false, Option.bind_some, Int.natCast_add, Int.natCast_mul, Int.cast_ofNat_Int, Int.reduceToNat, Int.reduceAdd, Int.reduceMul, Int.reduceSub, Int.reduceNeg, Nat.reduceAdd, Nat.reduceMul, hc, hsi, ek2, fa]
    · rw [if_neg c2] at e; cases e
  rw [if_neg c1] at e
  by_cases c2 : s = -22
  · rw [if_pos c2] at e
    subst c2
    cases st with
    | nil => cases e
    | cons v r =>
      dsimp only at e
      by_cases c3 : v = 0 ∨ v = 1
      · rw [if_pos c3] at e
        cases e
        have tp := eStk_top K
        have nt := sFo_not (v2 := v2) (h := h) c3
        refine ⟨jhI h (o + 2) r.length (jz (1 - v)), ?_, eStk_wr K (by omega), eFr_1 (eFr_refl _ _) _⟩
        rw [← ei]
        have l2 := (eLen2 v v r).2
        simp only [List.length_cons] at kl l2 ⊢
        simp only [fFo_valueFor_l5, fFo_valueFor_l5_b, fFo_valueFor_l5_j72, fFo_valueFor_l5_j152, ho, l2]
        simp (disch := omega) only [Bool.false_eq_true, jz_lit, jz_neg, jz_nat, jz_add, jz_sub, jz_mul, jz_lt, jz_le, jz_eq, jz_ix, jin_z, jz_div, jzw, jwz, jw_lit, jw_neg, jw_add, jw_sub, jw_mul, jw_lt, jw_le, jw_eq, jw_div, Int.toNat_natCast, if_pos, if_neg, if_true, if_false, Option.bind_some, Int.natCast_add, Int.natCast_mul, Int.cast_ofNat_Int, Int.reduceToNat, Int.reduceAdd, Int.reduceMul, Int.reduceSub, Int.reduceNeg, Nat.reduceAdd, Nat.reduceMul, hc, hsi, tp]
        rw [nt]
        simp (disch := omega) only [Bool.false_eq_true, jz_lit, jz_neg, jz_nat, jz_add, jz_sub, jz_mul, jz_lt, jz_le, jz_eq, jz_ix, jin_z, jz_div, jzw, jwz, jw_lit, jw_neg, jw_add, jw_sub, jw_mul, jw_lt, jw_le, jw_eq, jw_div, Int.toNat_natCast, if_pos, if_neg, if_true, if_false, Option.bind_some, Int.natCast_add, Int.natCast_mul, Int.cast_ofNat_Int, Int.reduceToNat, Int.reduceAdd, Int.reduceMul, Int.reduceSub, Int.reduceNeg, Nat.reduceAdd, Nat.reduceMul]
      · rw [if_neg c3] at e; cases e
  rw [if_neg c2] at e
  by_cases c3 : s = -23
  · rw [if_pos c3] at e
    subst c3
    cases st with
    | nil => cases e
    | cons v r =>
      dsimp only at e
      cases e
      have tp := eStk_top K
      have bd := eStk_bd K
      have nt := hF rfl v bd.1 bd.2
      have fb := hE.2 v
      refine ⟨jhI h (o + 2) r.length (jz (F v)), ?_, eStk_wr K (by omega), eFr_1 (eFr_refl _ _) _⟩
      rw [← ei]
      have l2 := (eLen2 v v r).2
      simp only [List.length_cons] at kl l2 ⊢
      simp only [fFo_valueFor_l5, fFo_valueFor_l5_b, fFo_valueFor_l5_j72, fFo_valueFor_l5_j152, ho, l2]
      simp (disch := omega) only [Bool.false_eq_true, jz_lit, jz_neg, jz_nat, jz_add, jz_sub, jz_mul, jz_lt, jz_le, jz_eq, jz_ix, jin_z, jz_div, jzw, jwz, jw_lit, jw_neg, jw_add, jw_sub, jw_mul, jw_lt, jw_le, jw_eq, jw_div, Int.toNat_natCast, if_pos, if_neg, if_true, if_false, Option.bind_some, Int.natCast_add, Int.natCast_mul, Int.cast_ofNat_Int, Int.reduceToNat, Int.reduceAdd, Int.reduceMul, Int.reduceSub, Int.reduceNeg, Nat.reduceAdd, Nat.reduceMul, hc, hsi, tp]
      rw [nt]
      simp (disch := omega) only [Bool.false_eq_true, jz_lit, jz_neg, jz_nat, jz_add, jz_sub, jz_mul, jz_lt, jz_le, jz_eq, jz_ix, jin_z, jz_div, jzw, jwz, jw_lit, jw_neg, jw_add, jw_sub, jw_mul, jw_lt, jw_le, jw_eq, jw_div, Int.toNat_natCast, if_pos, if_neg, if_true, if_false, Option.bind_some, Int.natCast_add, Int.natCast_mul, Int.cast_ofNat_Int, Int.reduceToNat, Int.reduceAdd, Int.reduceMul, Int.reduceSub, Int.reduceNeg, Nat.reduceAdd, Nat.reduceMul]
  rw [if_neg c3] at e
  match st, K, e, kl with
  | [], _, e, _ => cases e
  | [_], _, e, _ => cases e
  | b :: a :: r, K, e, kl =>
    dsimp only at e
    obtain ⟨v, e1, e2⟩ := Option.map_eq_some_iff.mp e
    subst e2
    have K2 := eStk_pop K
    have rg := jjoin_r e1
    have bb := eStk_bd K
    have ba := eStk_bd K2
    have vb := jjoin_b ba bb e1
    have tb := eStk_top K
    have ta := eStk_top K2
    have jn := sFo_joined rg ba.1 ba.2 bb.1 bb.2 e1
    refine ⟨jhI h (o + 2) r.length (jz v), ?_, eStk_wr K2 vb, eFr_1 (eFr_refl _ _) _⟩
    rw [← ei]
    have l1 := (eLen2 b a r).1
    have l2 := (eLen2 b a r).2
    have u1 : (((r.length : Nat) : Int) + 1).toNat = r.length + 1 := by omega
    simp only [List.length_cons] at kl l1 l2 tb ⊢
    simp only [fFo_valueFor_l5, fFo_valueFor_l5_b, fFo_valueFor_l5_j72, fFo_valueFor_l5_j152, ho, l1, l2]
    simp (disch := omega) only [Bool.false_eq_true, jz_lit, jz_neg, jz_nat, jz_add, jz_sub, jz_mul, jz_lt, jz_le, jz_eq, jz_ix, jin_z, jz_div, jzw, jwz, jw_lit, jw_neg, jw_add, jw_sub, jw_mul, jw_lt, jw_le, jw_eq, jw_div, Int.toNat_natCast, if_pos, if_neg, if_true, if_false, Option.bind_some, Int.natCast_add, Int.natCast_mul, Int.cast_ofNat_Int, Int.reduceToNat, Int.reduceAdd, Int.reduceMul, Int.reduceSub, Int.reduceNeg, Nat.reduceAdd, Nat.reduceMul, hc, hsi, tb, ta, u1]
    rw [jn]
    simp (disch := omega) only [Bool.false_eq_true, jz_lit, jz_neg, jz_nat, jz_add, jz_sub, jz_mul, jz_lt, jz_le, jz_eq, jz_ix, jin_z, jz_div, jzw, jwz, jw_lit, jw_neg, jw_add, jw_sub, jw_mul, jw_lt, jw_le, jw_eq, jw_div, Int.toNat_natCast, if_pos, if_neg, if_true, if_false, Option.bind_some, Int.natCast_add, Int.natCast_mul, Int.cast_ofNat_Int, Int.reduceToNat, Int.reduceAdd, Int.reduceMul, Int.reduceSub, Int.reduceNeg, Nat.reduceAdd, Nat.reduceMul]
theorem jrun_cons {E : Nat → Int} {F : Int → Int} {s : Int} {l st : List Int} {r : List Int} (e : jrun E F (s :: l) st = some r) : ∃ st', jsstep E F s st = some st' ∧ jrun E F l st' = some r := by
  unfold jrun at e
  cases c : jsstep E F s st with
  | none => rw [c] at e; cases e
  | some st' => rw [c] at e; exact ⟨st', rfl, e⟩
theorem eDrop {L : List Int} {i : Nat} (hi : i < L.length) : L.drop i = L.getD i 0 :: L.drop (i + 1) := by
  rw [List.drop_eq_getElem_cons hi]
  simp [hi]
theorem sFo_run {o v2 : Nat} {L : List Int} {E : Nat → Int} {F : Int → Int} {h0 : jH} {r : List Int} (ho : (jsh (o + 2)).2 = 64) (ho2 : o + 2 ≠ 82) (hL : L.length ≤ 1600) (hc : h0.1 o 2 = jz L.length) (hs : ∀ j, j < L.length → h0.1 (o + 1) j = jz (L.getD j 0)) (hE : jEb E F) (hf : ∀ k, k < 7 → h0.1 82 k = jz (E k)) (hF : ∀ i, L.getD i 0 = -23 → ∀ h, eFr (fun o' _ => o' = o + 2) h0 h → ∀ v, -1000000 ≤ v → v ≤ 1000000 → fFo_turned (jz (-23)) (jz v) 82 v2 h = some (jz (F v))) : ∀ (n i : Nat), i + n = L.length → ∀ (st : List Int) (h : jH), eFr (fun o' _ => o' = o + 2) h0 h → eStk o st h → jrun E F (L.drop i) st = some r → ∃ h', jlim (fFo_valueFor_l5 o 82 v2) (jz st.length, jz i, h) = some h' ∧ eStk o r h' ∧ eFr (fun o' _ => o' = o + 2) h0 h' := by
  intro n
  induction n with
  | zero =>
    intro i hi st h f K e
    have hi' : i = L.length := by omega
    subst hi'
    rw [List.drop_length] at e
    unfold jrun at e
    cases e
    refine ⟨h, ?_, K, f⟩
    have hc' : h.1 o 2 = jz L.length := by rw [f.1 _ _ (by omega)]; exact hc
    rw [jlim_eq]
    simp only [fFo_valueFor_l5, fFo_valueFor_l5_b]
    simp (disch := omega) only [Bool.false_eq_true, jz_lit, jz_neg, jz_nat, jz_add, jz_sub, jz_mul, jz_lt, jz_le, jz_eq, jz_ix, jin_z, jz_div, jzw, jwz, jw_lit, jw_neg, jw_add, jw_sub, jw_mul, jw_lt, jw_le, jw_eq, jw_div, Int.toNat_natCast, if_pos, if_neg, if_true, if_false, Option.bind_some, Int.natCast_add, Int.natCast_mul, Int.cast_ofNat_Int, Int.reduceToNat, Int.reduceAdd, Int.reduceMul, Int.reduceSub, Int.reduceNeg, Nat.reduceAdd, Nat.reduceMul, hc']
  | succ n ih =>
    intro i hi st h f K e
    rw [eDrop (by omega)] at e
    obtain ⟨st', e1, e2⟩ := jrun_cons e
    have hc' : h.1 o 2 = jz L.length := by rw [f.1 _ _ (by omega)]; exact hc
    obtain ⟨h1, e3, K1, f1⟩ := sFo_step (h := h) (v2 := v2) ho hL hc' (fun j hj => by rw [f.1 _ _ (by omega)]; exact hs j hj) (show i < L.length by omega) hE (fun k hk => by rw [f.1 _ _ (by omega)]; exact hf k hk) (fun hx => hF i hx h f) K e1
    obtain ⟨h2, e4, K2, f2⟩ := ih (i + 1) (by omega) st' h1 (eFr_trans f f1) K1 e2
    exact ⟨h2, by rw [jlim_eq, e3]; exact e4, K2, f2⟩
/-- a SUM's or a TEST's value, the class -/
theorem sFo_value {o v2 : Nat} {L : List Int} {E : Nat → Int} {F : Int → Int} {h : jH} {v : Int} (ho : (jsh (o + 2)).2 = 64) (ho2 : o + 2 ≠ 82) (hL : L.length ≤ 1600) (hc : h.1 o 2 = jz L.length) (hs : ∀ j, j < L.length → h.1 (o + 1) j = jz (L.getD j 0)) (hE : jEb E F) (hf : ∀ k, k < 7 → h.1 82 k = jz (E k)) (hF : ∀ i, L.getD i 0 = -23 → ∀ h1, eFr (fun o' _ => o' = o + 2) h h1 → ∀ v, -1000000 ≤ v → v ≤ 1000000 → fFo_turned (jz (-23)) (jz v) 82 v2 h1 = some (jz (F v))) (e : jrun E F L [] = some [v]) : ∃ h', fFo_valueFor o 82 v2 h = some (jz v, h') ∧ eFr (fun o' _ => o' = o + 2) h h' := by
  obtain ⟨h', e1, K, f⟩ := sFo_run (h0 := h) (v2 := v2) ho ho2 hL hc hs hE hf hF L.length 0 (by omega) [] h (eFr_refl _ _) ⟨by simp, by simp, by simp⟩ e
  refine ⟨h', ?_, f⟩
  have tp := eStk_top K
  have e1' : jlim (fFo_valueFor_l5 o 82 v2) (0, 0, h) = some h' := e1
  have tp' : h'.1 (o + 2) (0 : Int32).toNatClampNeg = jz v := tp
  unfold fFo_valueFor
  rw [e1', Option.bind_some, if_pos (by decide), tp']
/-! the late SUM, the class -/
/-- what a SUM says of guest k, w weeks on -/
def eFct (D S : jD) (k : Nat) (w : Int) (j : Nat) : Int := if j = 0 then (k : Int) else if j = 1 then S 1 k else if j = 2 then (if S 1 k = 0 then D 3 k else eTens D S k) else if j = 3 then D 4 k else if j = 4 then D 6 k else if j = 5 then D 5 k else if j = 6 then w else 0
theorem eFct_b {g k : Nat} {D S : jD} {w : Int} (b : bV g D) (bs : bS g S) (hk : k < g) (hw : 0 ≤ w ∧ w ≤ 999) (j : Nat) : 0 ≤ eFct D S k w j ∧ eFct D S k w j ≤ 1000 := by
  have b0 := b.1
  have b3 := b.2.2.2.1 k hk
  have b4 := bs.2.2.2.2 k (by omega)
  have b5 := eTens_b (S := S) b hk
  unfold eFct
  repeat' split
  all_goals omega
theorem eFct_E {g k : Nat} {D S : jD} {w : Int} (b : bV g D) (bs : bS g S) (hk : k < g) (hw : 0 ≤ w ∧ w ≤ 999) : jEb (eFct D S k w) (fun _ => 0) := ⟨fun j => eFct_b b bs hk hw j, fun _ => Or.inl rfl⟩
/-- what a late SUM says of guest k, w weeks on -/
def eLe (D : jD) (k : Nat) (w : Int) (j : Nat) : Int := if j = 3 then D 4 k else if j = 4 then D 6 k else if j = 5 then D 5 k else if j = 6 then w else 0
theorem eLe_E {g k : Nat} {D : jD} {w : Int} (b : bV g D) (hk : k < g) (hw : 0 ≤ w ∧ w ≤ 999) : jEb (eLe D k w) (fun _ => 0) := by
  have b3 := b.2.2.2.1 k hk
  refine ⟨fun j => ?_, fun _ => Or.inl rfl⟩
  unfold eLe
  repeat' split
  all_goals omega
/-- only what is named counts -/
theorem jrun_congr {E E' : Nat → Int} {F : Int → Int} : ∀ {L st : List Int}, (∀ s ∈ L, s < 0 → -7 ≤ s → E (-1 - s).toNat = E' (-1 - s).toNat) → jrun E F L st = jrun E' F L st := by
  intro L
  induction L with
  | nil => intro st _; rfl
  | cons s l ih =>
    intro st he
    have e1 : jsstep E F s st = jsstep E' F s st := by
      unfold jsstep
      by_cases c0 : 0 ≤ s
      · rw [if_pos c0, if_pos c0]
      · rw [if_neg c0, if_neg c0]
        by_cases c1 : -7 ≤ s
        · rw [if_pos c1, if_pos c1, he s (List.mem_cons_self ..) (by omega) c1]
        · rw [if_neg c1, if_neg c1]
    unfold jrun
    rw [e1]
    cases jsstep E' F s st with
    | none => rfl
    | some st' => exact ih (fun s hs => he s (List.mem_cons_of_mem _ hs))
/-- the late SUM's value -/
def eRun (E : Nat → Int) (L : List Int) : Int := match jrun E (fun _ => 0) L [] with
  | some [v] => v
  | _ => 0
def eLate (D : jD) (L : List Int) (k : Nat) (w : Int) : Int := if eRun (eLe D k w) L < 0 then 0 else if 999 < eRun (eLe D k w) L then 999 else eRun (eLe D k w) L
theorem eLate_b (D : jD) (L : List Int) (k : Nat) (w : Int) : 0 ≤ eLate D L k w ∧ eLate D L k w ≤ 999 := by
  unfold eLate
  split
  · omega
  · split <;> omega
theorem eLate_nil (D : jD) (k : Nat) (w : Int) : eLate D [] k w = 0 := rfl
theorem eRun_wf {E : Nat → Int} {L : List Int} (w : jwf L) (hE : jEb E (fun _ => 0)) : -1000000 ≤ eRun E L ∧ eRun E L ≤ 1000000 ∧ jrun E (fun _ => 0) L [] = some [eRun E L] := by
  obtain ⟨v, h1, h2, h3⟩ := w E _ hE
  have : eRun E L = v := by unfold eRun; rw [h3]
  rw [this]
  exact ⟨h1, h2, h3⟩
section EL
variable {p d g : Nat} {D S : jD} {L : List Int} {h : jH}
theorem iPD_11 (hpd : iPD p d) : (jsh (p + 9 + 2)).2 = 64 ∧ p + 9 + 2 ≠ 82 := by
  rcases hpd with ⟨rfl, rfl⟩ | ⟨rfl, rfl⟩
  · exact ⟨jss_95, by omega⟩
  · exact ⟨jss_109, by omega⟩
theorem sPy_fill {k : Nat} {w : Int} (hpd : iPD p d) (b : bV g D) (c : cV p g D h) (bs : bS g S) (cs : cS 11 S h) (hk : k < g) : ∃ h', fPy_fillFacts p (jz k) (jz w) h = some h' ∧ eFr (fun o _ => o = 82) h h' ∧ ∀ j, j < 7 → h'.1 82 j = jz (eFct D S k w j) := by
  have b0 := b.1
  have hp : p ≤ 98 ∧ 84 ≤ p := by unfold iPD at hpd; omega
  have c5 := c.2.2.2.1 k hk
  have cs1 := (cS11 cs).2.2 k (by omega)
  obtain ⟨r, hr⟩ : ∃ r, r = jhI (jhI h 82 0 (jz k)) 82 1 (jz (S 1 k)) := ⟨_, rfl⟩
  have fr : eFr (fun o _ => o = 82) h r := by
    rw [hr]
    exact eFr_1 (eFr_1 (eFr_refl _ _) _) _
  have r0 : r.1 82 0 = jz k := by rw [hr]; rfl
  have r1 : r.1 82 1 = jz (S 1 k) := by rw [hr]; rfl
  have rcs : cS 11 S r := cS_fr (fun o k hk => fr.1 o k (by omega)) cs
  have rc : cV p g D r := cV_fr (fun o k hk => fr.1 o k (by omega)) c
  have ria := sSd_isAsked bs rcs (show k < 8 by omega)
  have rcn := sPy_comesNow b rc bs rcs hk
  have step : ∀ x : Int, x = (if S 1 k = 0 then D 3 k else eTens D S k) → ∃ h', fPy_fillFacts_j66 p (jz k) (jz w) 82 (jz 2) (jz x) r = some h' ∧ eFr (fun o _ => o = 82) h h' ∧ ∀ j, j < 7 → h'.1 82 j = jz (eFct D S k w j) := by
    intro x hx
    refine ⟨jhI (jhI (jhI (jhI (jhI r 82 2 (jz x)) 82 3 (jz (D 4 k))) 82 4 (jz (D 6 k))) 82 5 (jz (D 5 k))) 82 6 (jz w), ?_, ?_, ?_⟩
    · have y3 : r.1 (p + 3) k = jz (D 4 k) := by rw [fr.1 _ _ (by omega)]; exact c5.2.1
      have y4 : r.1 (p + 4) k = jz (D 5 k) := by rw [fr.1 _ _ (by omega)]; exact c5.2.2.1
      have y5 : r.1 (p + 5) k = jz (D 6 k) := by rw [fr.1 _ _ (by omega)]; exact c5.2.2.2
      unfold fPy_fillFacts_j66
      rw [jss_82]
      simp (disch := omega) only [jz_lit, jin_z, jz_ix, if_pos, jhI_1, if_neg, Int.toNat_natCast, y3, y4, y5, Int.reduceToNat]
      first | done | rfl
    · exact eFr_1 (eFr_1 (eFr_1 (eFr_1 (eFr_1 fr _) _) _) _) _
    · intro j hj
      unfold eFct
      have : j = 0 ∨ j = 1 ∨ j = 2 ∨ j = 3 ∨ j = 4 ∨ j = 5 ∨ j = 6 := by omega
      rcases this with rfl | rfl | rfl | rfl | rfl | rfl | rfl
      · exact r0
      · exact r1
      · rw [if_neg (by omega), if_neg (by omega), if_pos rfl, ← hx]; rfl
      · rfl
      · rfl
      · rfl
      · rfl
  have e0 : fPy_fillFacts p (jz k) (jz w) h = Option.bind (fSd_isAsked 11 (jz k) r) (fun z6 => if z6 = 0 then fPy_fillFacts_j66 p (jz k) (jz w) 82 (jz 2) (r.1 (p + 2) k) r else Option.bind (fPy_comesNow p (jz k) r) (fun z17 => fPy_fillFacts_j66 p (jz k) (jz w) 82 (jz 2) z17 r)) := by
    have y : (jhI h 82 0 (jz k)).1 12 k = jz (S 1 k) := by rw [jhI_1, if_neg (by omega)]; exact cs1.1
    rw [hr]
    unfold fPy_fillFacts
    simp (disch := omega) only [jz_lit, jz_lt, jin_z, jz_ix, if_pos, if_neg, Int.toNat_natCast, Int.reduceToNat, Nat.reduceAdd, y]
  rw [e0, ria]
  by_cases c0 : S 1 k = 0
  · obtain ⟨h', q1, q2, q3⟩ := step (D 3 k) (by rw [if_pos c0])
    refine ⟨h', ?_, q2, q3⟩
    have y2 : r.1 (p + 2) k = jz (D 3 k) := by rw [fr.1 _ _ (by omega)]; exact c5.1
    rw [if_pos c0, Option.bind_some, if_pos (show jz 0 = 0 from rfl), y2]
    exact q1
  · obtain ⟨h', q1, q2, q3⟩ := step (eTens D S k) (by rw [if_neg c0])
    refine ⟨h', ?_, q2, q3⟩
    rw [if_neg c0, Option.bind_some, if_neg (by decide), rcn, Option.bind_some]
    exact q1
theorem sMt_clamp (v : Int) (h1 : -1000000 ≤ v) (h2 : v ≤ 1000000) : fMt_max 0 (fMt_min 999 (jz v)) = jz (if v < 0 then 0 else if 999 < v then 999 else v) := by
  unfold fMt_max fMt_min
  by_cases c1 : v < 0
  · simp (disch := omega) only [Bool.false_eq_true, jz_lit, jz_neg, jz_nat, jz_add, jz_sub, jz_mul, jz_lt, jz_le, jz_eq, jz_ix, jin_z, jz_div, jzw, jwz, jw_lit, jw_neg, jw_add, jw_sub, jw_mul, jw_lt, jw_le, jw_eq, jw_div, Int.toNat_natCast, if_pos, if_neg, if_true, if_false, Option.bind_some, Int.natCast_add, Int.natCast_mul, Int.cast_ofNat_Int, Int.reduceToNat, Int.reduceAdd, Int.reduceMul, Int.reduceSub, Int.reduceNeg, Nat.reduceAdd, Nat.reduceMul]
  · by_cases c2 : 999 < v
    · simp (disch := omega) only [Bool.false_eq_true, jz_lit, jz_neg, jz_nat, jz_add, jz_sub, jz_mul, jz_lt, jz_le, jz_eq, jz_ix, jin_z, jz_div, jzw, jwz, jw_lit, jw_neg, jw_add, jw_sub, jw_mul, jw_lt, jw_le, jw_eq, jw_div, Int.toNat_natCast, if_pos, if_neg, if_true, if_false, Option.bind_some, Int.natCast_add, Int.natCast_mul, Int.cast_ofNat_Int, Int.reduceToNat, Int.reduceAdd, Int.reduceMul, Int.reduceSub, Int.reduceNeg, Nat.reduceAdd, Nat.reduceMul]
    · by_cases c3 : v = 999
      · subst c3
        simp (disch := omega) only [Bool.false_eq_true, jz_lit, jz_neg, jz_nat, jz_add, jz_sub, jz_mul, jz_lt, jz_le, jz_eq, jz_ix, jin_z, jz_div, jzw, jwz, jw_lit, jw_neg, jw_add, jw_sub, jw_mul, jw_lt, jw_le, jw_eq, jw_div, Int.toNat_natCast, if_pos, if_neg, if_true, if_false, Option.bind_some, Int.natCast_add, Int.natCast_mul, Int.cast_ofNat_Int, Int.reduceToNat, Int.reduceAdd, Int.reduceMul, Int.reduceSub, Int.reduceNeg, Nat.reduceAdd, Nat.reduceMul]
      · by_cases c4 : v = 0
        · subst c4
          simp (disch := omega) only [Bool.false_eq_true, jz_lit, jz_neg, jz_nat, jz_add, jz_sub, jz_mul, jz_lt, jz_le, jz_eq, jz_ix, jin_z, jz_div, jzw, jwz, jw_lit, jw_neg, jw_add, jw_sub, jw_mul, jw_lt, jw_le, jw_eq, jw_div, Int.toNat_natCast, if_pos, if_neg, if_true, if_false, Option.bind_some, Int.natCast_add, Int.natCast_mul, Int.cast_ofNat_Int, Int.reduceToNat, Int.reduceAdd, Int.reduceMul, Int.reduceSub, Int.reduceNeg, Nat.reduceAdd, Nat.reduceMul]
        · simp (disch := omega) only [Bool.false_eq_true, jz_lit, jz_neg, jz_nat, jz_add, jz_sub, jz_mul, jz_lt, jz_le, jz_eq, jz_ix, jin_z, jz_div, jzw, jwz, jw_lit, jw_neg, jw_add, jw_sub, jw_mul, jw_lt, jw_le, jw_eq, jw_div, Int.toNat_natCast, if_pos, if_neg, if_true, if_false, Option.bind_some, Int.natCast_add, Int.natCast_mul, Int.cast_ofNat_Int, Int.reduceToNat, Int.reduceAdd, Int.reduceMul, Int.reduceSub, Int.reduceNeg, Nat.reduceAdd, Nat.reduceMul]
theorem sPy_late {k : Nat} {w : Int} (hpd : iPD p d) (b : bV g D) (c : cV p g D h) (bs : bS g S) (cs : cS 11 S h) (l : jLt p L h) (hne : L ≠ []) (hk : k < g) (hw : 0 ≤ w ∧ w ≤ 999) : ∃ h', fPy_lateOffence p (jz k) (jz w) h = some (jz (eLate D L k w), h') ∧ eFr (fun o _ => o = 82 ∨ o = p + 11) h h' := by
  have hp := hpd
  unfold iPD at hp
  obtain ⟨l1, l2, l3, l4, l5⟩ := l
  obtain ⟨l6, -, -, l7⟩ := l5 hne
  obtain ⟨h1, e1, f1, r1⟩ := sPy_fill (w := w) hpd b c bs cs hk
  have rw1 := eRun_wf l6 (eLe_E b hk hw)
  have hnF : ∀ i, L.getD i 0 = -23 → False := by
    intro i hi
    by_cases c : i < L.length
    · have := l7 i c; omega
    · have : L.getD i 0 = 0 := by simp [List.getD, List.getElem?_eq_none (show L.length ≤ i by omega)]
      omega
  have rw2 : jrun (eFct D S k w) (fun _ => 0) L [] = some [eRun (eLe D k w) L] := by
    rw [← rw1.2.2]
    refine jrun_congr (fun s hs h1 h2 => ?_)
    obtain ⟨i, hi, rfl⟩ := List.getElem_of_mem hs
    have := l7 i hi
    rw [show L.getD i 0 = L[i] by simp [hi]] at this
    have : L[i] = -4 ∨ L[i] = -5 ∨ L[i] = -6 ∨ L[i] = -7 := by omega
    rcases this with e | e | e | e <;> (rw [e]; rfl)
  obtain ⟨h2, e2, f2⟩ := sFo_value (o := p + 9) (v2 := p + 8) (h := h1) (iPD_11 hpd).1 (iPD_11 hpd).2 l1 (by rw [f1.1 _ _ (by omega)]; exact l2) (fun j hj => by rw [f1.1 _ _ (by omega)]; exact l3 j hj) (eFct_E b bs hk hw) r1 (fun i hi => (hnF i hi).elim) rw2
  refine ⟨h2, ?_, eFr_trans (eFr_mono f1 (fun o k hk => Or.inl hk)) (eFr_mono f2 (fun o k hk => Or.inr hk))⟩
  unfold fPy_lateOffence
  rw [e1, Option.bind_some, e2, Option.bind_some]
  show some (fMt_max 0 (fMt_min 999 (jz _)), h2) = _
  rw [sMt_clamp _ rw1.1 rw1.2.1]
  rfl
end EL
