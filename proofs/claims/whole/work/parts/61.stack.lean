/-! SUM and TEST, the reference's stack and codes -/
/-- stack W (its top first), base b, depth a, codes C -/
def mO (W : List Int) (b : Nat) (a : Int) (C : List Int) (md : Int) (h : jH) : Prop := h.1 110 82 = jz W.length ∧ (∀ i, i < W.length → h.1 174 i = jz (eAt W i)) ∧ h.1 110 84 = jz b ∧ b ≤ W.length ∧ h.1 110 83 = jz a ∧ h.1 110 80 = jz C.length ∧ (∀ j, j < C.length → h.1 173 j = jz (C.getD j 0)) ∧ h.1 110 49 = jz (1 - md) ∧ W.length ≤ 1650 ∧ C.length ≤ 1650 ∧ (∀ x ∈ W, 0 ≤ x ∧ x ≤ 100) ∧ (md = 0 ∨ md = 1) ∧ -2000 ≤ a ∧ a ≤ 6
def xg (o k : Nat) : Prop := o = 173 ∨ o = 174 ∨ (o = 110 ∧ (k = 2 ∨ k = 4 ∨ k = 5 ∨ k = 6 ∨ k = 35 ∨ k = 80 ∨ k = 82 ∨ k = 83 ∨ k = 84))
def xq (o k : Nat) : Prop := o = 173 ∨ o = 174 ∨ (o = 110 ∧ (k = 80 ∨ k = 82 ∨ k = 83 ∨ k = 84))
theorem xg_m {h h1 : jH} (a : eFr xm h h1) : eFr xg h h1 := eFr_mono a (fun o k hk => by unfold xm at hk; unfold xg; omega)
theorem xg_q {h h1 : jH} (a : eFr xq h h1) : eFr xg h h1 := eFr_mono a (fun o k hk => by unfold xq at hk; unfold xg; omega)
theorem xq_I {h h1 : jH} {k : Nat} (a : eFr xq h h1) (hk : k = 80 ∨ k = 82 ∨ k = 83 ∨ k = 84) (v : Int32) : eFr xq h (jhI h1 110 k v) := eFr_I (S := xq) a (Or.inr (Or.inr ⟨rfl, hk⟩)) v
theorem xq_I3 {h h1 : jH} {k : Nat} (a : eFr xq h h1) (v : Int32) : eFr xq h (jhI h1 173 k v) := eFr_I (S := xq) a (Or.inl rfl) v
theorem xq_I4 {h h1 : jH} {k : Nat} (a : eFr xq h h1) (v : Int32) : eFr xq h (jhI h1 174 k v) := eFr_I (S := xq) a (Or.inr (Or.inl rfl)) v
section XO
variable {n : Nat} {T : Nat → Nat} {e : Int} {s b : Nat} {a md : Int} {W C : List Int} {h : jH} {f pl : Int}
theorem mO_fr {h' : jH} (O : mO W b a C md h) (f : ∀ o k, o = 173 ∨ o = 174 ∨ (o = 110 ∧ (k = 80 ∨ k = 82 ∨ k = 83 ∨ k = 84 ∨ k = 49)) → h'.1 o k = h.1 o k) : mO W b a C md h' := by
  unfold mO at *
  simp (disch := omega) only [f]
  exact O
theorem mO_m {h' : jH} (O : mO W b a C md h) (f : eFr xm h h') : mO W b a C md h' := mO_fr O (fun o k hk => f.1 o k (by unfold xm; omega))
/-- the codes are not too many -/
def mcnt (h : jH) : Prop := ∃ c w : Nat, c + w ≤ 1660 ∧ h.1 110 80 = jz c ∧ h.1 110 82 = jz w
theorem mO_cnt (O : mO W b a C md h) (hl : C.length + W.length ≤ 1650 := by first | omega | (simp only [List.length_append, List.length_cons]; omega)) : mcnt h := ⟨C.length, W.length, by omega, O.2.2.2.2.2.1, O.1⟩
theorem mcnt_m {h' : jH} (O : mcnt h) (f : eFr xm h h') : mcnt h' := by
  obtain ⟨c, w, c1, c2, c3⟩ := O
  exact ⟨c, w, c1, by rw [f.1 _ _ (by unfold xm; omega)]; exact c2, by rw [f.1 _ _ (by unfold xm; omega)]; exact c3⟩
def xgF (h h' : jH) : Prop := eFr xg h h' ∧ mcnt h'
theorem xgF_tr {h h1 h2 : jH} (a : eFr xg h h1) (b : xgF h1 h2) : xgF h h2 := ⟨eFr_trans a b.1, b.2⟩
theorem mR_q {h' : jH} (R : mR n T e s h) (f : eFr xq h h') : mR n T e s h' := mR_fr R (fun o k hk => f.1 o k (by unfold xq; omega))
theorem mL_q {h' : jH} (R : mL n T e s h) (f : eFr xq h h') : mL n T e s h' := mL_fr R (fun o k hk => f.1 o k (by unfold xq; omega))
theorem mF_q {h' : jH} (R : mF n T f pl h) (w : eFr xq h h') : mF n T f pl h' := mF_fr R (fun o k hk => w.1 o k (by unfold xq; omega))
theorem eLast {C : List Int} {c : Int} {j : Nat} : (C ++ [c]).getD j 0 = if j < C.length then C.getD j 0 else if j = C.length then c else 0 := by
  by_cases q : j < C.length
  · rw [if_pos q]; simp [List.getD, List.getElem?_append_left q]
  · rw [if_neg q]
    by_cases q2 : j = C.length
    · rw [if_pos q2, q2]; simp [List.getD]
    · rw [if_neg q2]
      simp only [List.getD]
      rw [List.getElem?_eq_none (by simp; omega)]
      rfl
/-- a code more -/
theorem sM_code {c : Int} (O : mO W b a C md h) (hC : C.length < 1650) : ∃ h', fM_qCode (jz c) h = some h' ∧ mO W b a (C ++ [c]) md h' ∧ eFr xq h h' := by
  obtain ⟨o1, o2, o3, o4, o5, o6, o7, o8, o9, o10, o11, o12, o13⟩ := O
  have ix : (jz (C.length : Int)).toNatClampNeg = C.length := by rw [jz_ix (by omega) (by omega), Int.toNat_natCast]
  have e1 : jz (C.length : Int) + 1 = jz ((C.length + 1 : Nat) : Int) := by rw [show (1 : Int32) = jz 1 from rfl, jz_add]; rfl
  have f0 : eFr xq h (jhI (jhI h 173 C.length (jz c)) 110 80 (jz ((C.length + 1 : Nat) : Int))) := xq_I (xq_I3 (eFr_refl _ _) _) (Or.inl rfl) _
  refine ⟨_, ?_, ⟨?_, fun i hi => ?_, ?_, o4, ?_, ?_, fun j hj => ?_, ?_, o9, ?_, o11, o12, o13⟩, f0⟩
  · unfold fM_qCode
    rw [o6, if_pos (by rw [jin_z (by omega) (by omega)]; omega), ix, jhI_1, if_neg (by omega), o6, e1]
  · rw [jhI_1, if_neg (by omega), jhI_1, if_neg (by omega)]; exact o1
  · rw [jhI_1, if_neg (by omega), jhI_1, if_neg (by omega)]; exact o2 i hi
  · rw [jhI_1, if_neg (by omega), jhI_1, if_neg (by omega)]; exact o3
  · rw [jhI_1, if_neg (by omega), jhI_1, if_neg (by omega)]; exact o5
  · rw [jhI_1, if_pos ⟨rfl, rfl⟩, List.length_append]; rfl
  · rw [List.length_append, List.length_singleton] at hj
    rw [jhI_1, if_neg (by omega), jhI_1, eLast]
    by_cases q : j = C.length
    · rw [if_pos ⟨rfl, q⟩, if_neg (by omega), if_pos q]
    · rw [if_neg (fun t => q t.2), if_pos (by omega)]; exact o7 j (by omega)
  · rw [jhI_1, if_neg (by omega), jhI_1, if_neg (by omega)]; exact o8
  · rw [List.length_append, List.length_singleton]; omega
theorem mO_pop {x : Int} (O : mO (x :: W) b a C md h) (hb : b ≤ W.length) : mO W b a C md (jhI h 110 82 (jz W.length)) := by
  obtain ⟨o1, o2, o3, o4, o5, o6, o7, o8, o9, o10, o11, o12, o13⟩ := O
  simp only [List.length_cons] at o2 o9
  refine ⟨rfl, fun i hi => ?_, ?_, hb, ?_, ?_, fun j hj => ?_, ?_, by omega, o10, fun y hy => o11 y (List.mem_cons_of_mem _ hy), o12, o13⟩
  · have := o2 i (by omega)
    rw [eAt, if_neg (by omega)] at this
    rw [jhI_1, if_neg (by omega)]; exact this
  · rw [jhI_1, if_neg (by omega)]; exact o3
  · rw [jhI_1, if_neg (by omega)]; exact o5
  · rw [jhI_1, if_neg (by omega)]; exact o6
  · rw [jhI_1, if_neg (by omega)]; exact o7 j hj
  · rw [jhI_1, if_neg (by omega)]; exact o8
theorem mO_top {x : Int} (O : mO (x :: W) b a C md h) : h.1 174 W.length = jz x ∧ h.1 110 82 - 1 = jz W.length ∧ (jz (W.length : Int)).toNatClampNeg = W.length ∧ jin (jz (W.length : Int)) 1700 := by
  obtain ⟨o1, o2, o3, o4, o5, o6, o7, o8, o9, o10, o11, o12⟩ := O
  simp only [List.length_cons] at o9
  have := o2 W.length (by simp)
  rw [eAt, if_pos rfl] at this
  refine ⟨this, ?_, ?_, ?_⟩
  · rw [o1, show (1 : Int32) = jz 1 from rfl, jz_sub]
    congr 1
    simp only [List.length_cons]
    omega
  · rw [jz_ix (by omega) (by omega), Int.toNat_natCast]
  · rw [jin_z (by omega) (by omega)]; omega
theorem mO_lev {a' : Int} (O : mO W b a C md h) (ha : -2000 ≤ a' ∧ a' ≤ 6) : mO W b a' C md (jhI h 110 83 (jz a')) := by
  obtain ⟨o1, o2, o3, o4, o5, o6, o7, o8, o9, o10, o11, o12, o13⟩ := O
  refine ⟨?_, fun i hi => ?_, ?_, o4, rfl, ?_, fun j hj => ?_, ?_, o9, o10, o11, o12, ha⟩
  · rw [jhI_1, if_neg (by omega)]; exact o1
  · rw [jhI_1, if_neg (by omega)]; exact o2 i hi
  · rw [jhI_1, if_neg (by omega)]; exact o3
  · rw [jhI_1, if_neg (by omega)]; exact o6
  · rw [jhI_1, if_neg (by omega)]; exact o7 j hj
  · rw [jhI_1, if_neg (by omega)]; exact o8
theorem mO_push {x : Int} (O : mO W b a C md h) (hx : 0 ≤ x ∧ x ≤ 100) (hW : W.length < 1650) : mO (x :: W) b a C md (jhI (jhI h 174 W.length (jz x)) 110 82 (jz ((W.length + 1 : Nat) : Int))) := by
  obtain ⟨o1, o2, o3, o4, o5, o6, o7, o8, o9, o10, o11, o12, o13⟩ := O
  refine ⟨rfl, fun i hi => ?_, ?_, by simp only [List.length_cons]; omega, ?_, ?_, fun j hj => ?_, ?_, by simp only [List.length_cons]; omega, o10, fun y hy => ?_, o12, o13⟩
  · simp only [List.length_cons] at hi
    rw [jhI_1, if_neg (by omega), jhI_1, eAt]
    by_cases q : i = W.length
    · rw [if_pos ⟨rfl, q⟩, if_pos q]
    · rw [if_neg (fun t => q t.2), if_neg q]; exact o2 i (by omega)
  · rw [jhI_1, if_neg (by omega), jhI_1, if_neg (by omega)]; exact o3
  · rw [jhI_1, if_neg (by omega), jhI_1, if_neg (by omega)]; exact o5
  · rw [jhI_1, if_neg (by omega), jhI_1, if_neg (by omega)]; exact o6
  · rw [jhI_1, if_neg (by omega), jhI_1, if_neg (by omega)]; exact o7 j hj
  · rw [jhI_1, if_neg (by omega), jhI_1, if_neg (by omega)]; exact o8
  · rcases List.mem_cons.mp hy with rfl | hy
    · exact hx
    · exact o11 y hy
/-- the top goes among the codes -/
theorem sM_drops {x : Int} (O : mO (x :: W) b a C md h) (hb : b ≤ W.length) (hC : C.length < 1650) : ∃ h', fM_qDrops h = some h' ∧ mO W b a (C ++ [x]) md h' ∧ eFr xq h h' := by
  obtain ⟨t1, t2, t3, t4⟩ := mO_top O
  have P := mO_pop O hb
  obtain ⟨h', q1, q2, q3⟩ := sM_code (c := x) P hC
  refine ⟨h', ?_, q2, eFr_trans (xq_I (eFr_refl _ _) (Or.inr (Or.inl rfl)) _) q3⟩
  unfold fM_qDrops
  rw [t2]
  have y1 : (jhI h 110 82 (jz (W.length : Int))).1 110 82 = jz W.length := rfl
  have y2 : (jhI h 110 82 (jz (W.length : Int))).1 174 W.length = jz x := by rw [jhI_1, if_neg (by omega)]; exact t1
  rw [y1, if_pos t4, t3, y2, q1]
  rfl
/-- it opens -/
theorem sM_opens {x : Int} {p2 : Int} (R : mL n T e s h) (O : mO W b a C md h) (hx : 0 ≤ x ∧ x ≤ 100) (hW : W.length < 1650) : (a = 6 → ∃ h', fM_qOpens (jz x) (jz p2) h = some h' ∧ mF n T 4 p2 h' ∧ eFr xm h h') ∧ (a ≠ 6 → ∃ h', fM_qOpens (jz x) (jz p2) h = some h' ∧ mO (x :: W) b (a + 1) C md h' ∧ eFr xq h h') := by
  have O0 := O
  obtain ⟨o1, o2, o3, o4, o5, o6, o7, o8, o9, o10, o11, o12, o13⟩ := O0
  constructor
  · intro ha
    have fl := sM_failR (p2 := p2) R (f := 4) (by omega)
    refine ⟨_, ?_, fl.1, fl.2⟩
    unfold fM_qOpens
    rw [mR_5 R.1, if_pos rfl, o5, ha, if_pos (show jz 6 = 6 from rfl)]
    rfl
  · intro ha
    have ea : jz a + 1 = jz (a + 1) := by rw [show (1 : Int32) = jz 1 from rfl, jz_add]
    have ix : (jz (W.length : Int)).toNatClampNeg = W.length := by rw [jz_ix (by omega) (by omega), Int.toNat_natCast]
    have e1 : jz (W.length : Int) + 1 = jz ((W.length + 1 : Nat) : Int) := by rw [show (1 : Int32) = jz 1 from rfl, jz_add]; rfl
    refine ⟨_, ?_, mO_push (mO_lev (a' := a + 1) O (by omega)) hx hW, xq_I (xq_I4 (xq_I (eFr_refl _ _) (Or.inr (Or.inr (Or.inl rfl))) _) _) (Or.inr (Or.inl rfl)) _⟩
    unfold fM_qOpens
    have y1 : (jhI h 110 83 (jz (a + 1))).1 110 82 = jz W.length := by rw [jhI_1, if_neg (by omega)]; exact o1
    have y2 : (jhI (jhI h 110 83 (jz (a + 1))) 174 W.length (jz x)).1 110 82 = jz W.length := by rw [jhI_1, if_neg (by omega)]; exact y1
    rw [mR_5 R.1, if_pos rfl, o5, if_neg (by rw [show (6 : Int32) = jz 6 from rfl, jz_eq (by omega) (by omega) (by omega) (by omega)]; exact ha), ea, y1, if_pos (by rw [jin_z (by omega) (by omega)]; omega), ix, y2, e1]
/-- what is no PULLS ends no PART -/
theorem sM_ends0 (R : mR n T e s h) (O : mO W b a C md h) (hW : W.length = b ∨ ∃ x r, W = x :: r ∧ x < 60) : fM_qEndsPart h = some h := by
  have O0 := O
  obtain ⟨o1, o2, o3, o4, o5, o6, o7, o8, o9, o10, o11, o12, o13⟩ := O0
  have l : fM_qEndsPart_l0 h = some (.inr h) := by
    simp only [fM_qEndsPart_l0, fM_qEndsPart_l0_b]
    rw [mR_5 R, if_pos rfl, o3]
    by_cases q : W.length = b
    · rw [if_neg (by rw [o1, jz_lt (by omega) (by omega) (by omega) (by omega)]; omega)]
    · obtain ⟨x, r, rfl, hx⟩ := hW.resolve_left q
      obtain ⟨t1, t2, t3, t4⟩ := mO_top O
      have xb := o11 x (List.mem_cons_self ..)
      rw [if_pos (by rw [o1, jz_lt (by omega) (by omega) (by omega) (by omega)]; omega), t2, if_pos t4, t3, t1, if_pos (by rw [show (60 : Int32) = jz 60 from rfl, jz_lt (by omega) (by omega) (by omega) (by omega)]; exact hx)]
  unfold fM_qEndsPart
  rw [jlim_eq, l]
  rfl
theorem sM_ends1 {x : Int} (R : mR n T e s h) (O : mO (x :: W) b a C md h) (hb : b ≤ W.length) (hx : 60 ≤ x) (ha : -2000 < a) (hC : C.length < 1650) : ∃ h', fM_qEndsPart h = fM_qEndsPart h' ∧ mO W b (a - 1) (C ++ [x]) md h' ∧ eFr xq h h' := by
  have O0 := O
  obtain ⟨o1, o2, o3, o4, o5, o6, o7, o8, o9, o10, o11, o12, o13⟩ := O0
  obtain ⟨t1, t2, t3, t4⟩ := mO_top O
  have xb := o11 x (List.mem_cons_self ..)
  have ea : jz a - 1 = jz (a - 1) := by rw [show (1 : Int32) = jz 1 from rfl, jz_sub]
  obtain ⟨h', q1, q2, q3⟩ := sM_drops (mO_lev (a' := a - 1) O (by omega)) hb hC
  refine ⟨h', ?_, q2, eFr_trans (xq_I (eFr_refl _ _) (Or.inr (Or.inr (Or.inl rfl))) _) q3⟩
  have l : fM_qEndsPart_l0 h = some (.inl h') := by
    simp only [fM_qEndsPart_l0, fM_qEndsPart_l0_b]
    simp only [List.length_cons] at o1 o9
    rw [mR_5 R, if_pos rfl, o3, if_pos (by rw [o1, jz_lt (by omega) (by omega) (by omega) (by omega)]; omega), t2, if_pos t4, t3, t1, if_neg (by rw [show (60 : Int32) = jz 60 from rfl, jz_lt (by omega) (by omega) (by omega) (by omega)]; omega), o5, ea, q1, Option.bind_some]
  unfold fM_qEndsPart
  rw [jlim_eq, l]
theorem sM_ends_nf : ∀ (W : List Int) (a : Int) (C : List Int) (h : jH), mR n T e s h → mO W b a C md h → C.length + W.length ≤ 1600 → (W.length : Int) - 2000 ≤ a → ∃ h', fM_qEndsPart h = some h' ∧ h'.1 110 5 = 0 := by
  intro W
  induction W with
  | nil =>
    intro a C h R O _ _
    have : ([] : List Int).length = b := by have := O.2.2.2.1; simp only [List.length_nil] at this ⊢; omega
    exact ⟨h, sM_ends0 R O (Or.inl this), mR_5 R⟩
  | cons x W ih =>
    intro a C h R O hl ha
    simp only [List.length_cons] at hl ha
    by_cases hb : (x :: W).length = b
    · exact ⟨h, sM_ends0 R O (Or.inl hb), mR_5 R⟩
    · by_cases hx : x < 60
      · exact ⟨h, sM_ends0 R O (Or.inr ⟨x, W, rfl, hx⟩), mR_5 R⟩
      · have b4 := O.2.2.2.1
        simp only [List.length_cons] at b4 hb
        obtain ⟨h1, q1, q2, q3⟩ := sM_ends1 R O (by omega) (by omega) (by omega) (by omega)
        obtain ⟨h2, p1, p2⟩ := ih (a - 1) (C ++ [x]) h1 (mR_q R q3) q2 (by rw [List.length_append, List.length_singleton]; omega) (by omega)
        exact ⟨h2, by rw [q1]; exact p1, p2⟩
/-- signs that wait -/
def xop (x : Int) : Prop := 1 ≤ x ∧ x ≤ 4
theorem sM_isBr {x : Int} (hx : 0 ≤ x ∧ x ≤ 100) : fM_qIsBracket (jz x) = if 20 ≤ x ∧ x ≤ 24 then 1 else 0 := by
  unfold fM_qIsBracket
  by_cases c1 : x < 20
  · rw [if_neg (show ¬ (20 ≤ x ∧ x ≤ 24) by omega)]
    simp (disch := omega) only [Bool.false_eq_true, jz_lit, jz_neg, jz_nat, jz_add, jz_sub, jz_mul, jz_lt, jz_le, jz_eq, jz_ix, jin_z, jz_div, jzw, jwz, jw_lit, jw_neg, jw_add, jw_sub, jw_mul, jw_lt, jw_le, jw_eq, jw_div, Int.toNat_natCast, if_pos, if_neg, if_true, if_false, Option.bind_some, Int.natCast_add, Int.natCast_mul, Int.cast_ofNat_Int, Int.reduceToNat, Int.reduceAdd, Int.reduceMul, Int.reduceSub, Int.reduceNeg, Nat.reduceAdd, Nat.reduceMul]
  · by_cases c2 : 24 < x
    · rw [if_neg (show ¬ (20 ≤ x ∧ x ≤ 24) by omega)]
      simp (disch := omega) only [Bool.false_eq_true, jz_lit, jz_neg, jz_nat, jz_add, jz_sub, jz_mul, jz_lt, jz_le, jz_eq, jz_ix, jin_z, jz_div, jzw, jwz, jw_lit, jw_neg, jw_add, jw_sub, jw_mul, jw_lt, jw_le, jw_eq, jw_div, Int.toNat_natCast, if_pos, if_neg, if_true, if_false, Option.bind_some, Int.natCast_add, Int.natCast_mul, Int.cast_ofNat_Int, Int.reduceToNat, Int.reduceAdd, Int.reduceMul, Int.reduceSub, Int.reduceNeg, Nat.reduceAdd, Nat.reduceMul]
    · rw [if_pos (show 20 ≤ x ∧ x ≤ 24 by omega)]
      simp (disch := omega) only [Bool.false_eq_true, jz_lit, jz_neg, jz_nat, jz_add, jz_sub, jz_mul, jz_lt, jz_le, jz_eq, jz_ix, jin_z, jz_div, jzw, jwz, jw_lit, jw_neg, jw_add, jw_sub, jw_mul, jw_lt, jw_le, jw_eq, jw_div, Int.toNat_natCast, if_pos, if_neg, if_true, if_false, Option.bind_some, Int.natCast_add, Int.natCast_mul, Int.cast_ofNat_Int, Int.reduceToNat, Int.reduceAdd, Int.reduceMul, Int.reduceSub, Int.reduceNeg, Nat.reduceAdd, Nat.reduceMul]
/-- where brackets end: at the base, or at an open bracket -/
def xbr (W : List Int) (b : Nat) : Prop := W.length = b ∨ ∃ x r, W = x :: r ∧ 20 ≤ x ∧ x ≤ 24 ∧ b < W.length
theorem sM_toBr : ∀ (π : List Int) (C : List Int) (h : jH), mO (π ++ W) b a C md h → (∀ x ∈ π, xop x) → xbr W b → C.length + π.length ≤ 1600 → ∃ h', fM_qDropsToBracket h = some h' ∧ mO W b a (C ++ π) md h' ∧ eFr xq h h' := by
  intro π
  induction π with
  | nil =>
    intro C h O _ hw _
    rw [List.append_nil]
    refine ⟨h, ?_, O, eFr_refl _ _⟩
    have O0 := O
    obtain ⟨o1, o2, o3, o4, o5, o6, o7, o8, o9, o10, o11, o12, o13⟩ := O0
    rw [List.nil_append] at o1 o9 o11 O
    have l : fM_qDropsToBracket_l0 h = some (.inr h) := by
      simp only [fM_qDropsToBracket_l0, fM_qDropsToBracket_l0_b]
      rw [o3]
      rcases hw with hw | ⟨x, r, rfl, x1, x2, x3⟩
      · rw [if_neg (by rw [o1, jz_lt (by omega) (by omega) (by omega) (by omega)]; omega)]
      · obtain ⟨t1, t2, t3, t4⟩ := mO_top O
        rw [if_pos (by rw [o1, jz_lt (by omega) (by omega) (by omega) (by omega)]; omega), t2, if_pos t4, t3, t1, sM_isBr (by omega), if_pos (show 20 ≤ x ∧ x ≤ 24 from ⟨x1, x2⟩), if_neg (show ¬ (1 : Int32) = 0 by decide)]
    unfold fM_qDropsToBracket
    rw [jlim_eq, l]
    rfl
  | cons y π ih =>
    intro C h O hp hw hl
    simp only [List.length_cons] at hl
    have O0 : mO (y :: (π ++ W)) b a C md h := O
    have hy := hp y (List.mem_cons_self ..)
    unfold xop at hy
    have hbW : b ≤ W.length := by
      rcases hw with hw | ⟨x, r, -, -, -, x3⟩
      · omega
      · omega
    have hb : b ≤ (π ++ W).length := by rw [List.length_append]; omega
    obtain ⟨t1, t2, t3, t4⟩ := mO_top O0
    obtain ⟨h1, q1, q2, q3⟩ := sM_drops O0 hb (by omega)
    obtain ⟨h2, p1, p2, p3⟩ := ih (C ++ [y]) h1 q2 (fun x hx => hp x (List.mem_cons_of_mem _ hx)) hw (by rw [List.length_append, List.length_singleton]; omega)
    refine ⟨h2, ?_, by rw [List.append_assoc] at p2; exact p2, eFr_trans q3 p3⟩
    have o1 := O0.1
    have o3 := O0.2.2.1
    have o9 := O0.2.2.2.2.2.2.2.2.1
    simp only [List.length_cons] at o1 o9
    have l : fM_qDropsToBracket_l0 h = some (.inl h1) := by
      simp only [fM_qDropsToBracket_l0, fM_qDropsToBracket_l0_b]
      rw [o3, if_pos (by rw [o1, jz_lt (by omega) (by omega) (by omega) (by omega)]; omega), t2, if_pos t4, t3, t1, sM_isBr (by omega), if_neg (show ¬ (20 ≤ y ∧ y ≤ 24) by omega), if_pos rfl, q1, Option.bind_some]
    unfold fM_qDropsToBracket at p1 ⊢
    rw [jlim_eq, l]
    exact p1
/-- the bracket that is open -/
theorem sM_bracket : ∀ (π : List Int) (V : List Int) (h : jH), mO (V ++ (π ++ W)) b a C md h → (∀ x ∈ π, xop x) → xbr W b → jlim (fM_qBracket_l7 h) (jz (((π ++ W).length : Int) - 1)) = some (jz ((W.length : Int) - 1)) := by
  intro π
  induction π with
  | nil =>
    intro V h O _ hw
    rw [List.nil_append] at O ⊢
    obtain ⟨o1, o2, o3, o4, o5, o6, o7, o8, o9, o10, o11, o12, o13⟩ := O
    rw [List.length_append] at o9 o2
    have l : fM_qBracket_l7 h (jz ((W.length : Int) - 1)) = some (.inr (jz ((W.length : Int) - 1))) := by
      simp only [fM_qBracket_l7, fM_qBracket_l7_b]
      rw [o3]
      rcases hw with hw | ⟨x, r, rfl, x1, x2, x3⟩
      · rw [if_pos (by rw [jz_lt (by omega) (by omega) (by omega) (by omega)]; omega)]
      · have xb := o11 x (List.mem_append_right _ (List.mem_cons_self ..))
        have e1 : (((x :: r).length : Nat) : Int) - 1 = (r.length : Int) := by simp only [List.length_cons]; omega
        simp only [List.length_cons] at o2 o9 x3
        have at' : ∀ (V : List Int), eAt (V ++ x :: r) r.length = x := by
          intro V
          induction V with
          | nil => rw [List.nil_append, eAt, if_pos rfl]
          | cons z V ihV =>
            show (if r.length = (V ++ x :: r).length then z else eAt (V ++ x :: r) r.length) = x
            rw [if_neg (by simp only [List.length_append, List.length_cons]; omega)]
            exact ihV
        have c := o2 r.length (by omega)
        rw [at' V] at c
        rw [e1, if_neg (by rw [jz_lt (by omega) (by omega) (by omega) (by omega)]; omega), if_pos (by rw [jin_z (by omega) (by omega)]; omega), jz_ix (by omega) (by omega), Int.toNat_natCast, c, sM_isBr (by omega), if_pos (show 20 ≤ x ∧ x ≤ 24 from ⟨x1, x2⟩), if_neg (show ¬ (1 : Int32) = 0 by decide)]
    rw [jlim_eq, l]
  | cons y π ih =>
    intro V h O hp hw
    have hy := hp y (List.mem_cons_self ..)
    unfold xop at hy
    have O' : mO ((V ++ [y]) ++ (π ++ W)) b a C md h := by
      rw [List.append_assoc]
      exact O
    have i1 := ih (V ++ [y]) h O' (fun x hx => hp x (List.mem_cons_of_mem _ hx)) hw
    obtain ⟨o1, o2, o3, o4, o5, o6, o7, o8, o9, o10, o11, o12, o13⟩ := O
    have hbW : b ≤ W.length := by
      rcases hw with hw | ⟨x, r, -, -, -, x3⟩
      · omega
      · omega
    rw [List.length_append] at o9 o2
    simp only [List.cons_append, List.length_cons] at o9 o2
    have lb : (π ++ W).length = π.length + W.length := List.length_append ..
    have e1 : ((((y :: π) ++ W).length : Nat) : Int) - 1 = ((π ++ W).length : Int) := by simp only [List.cons_append, List.length_cons]; omega
    have at' : ∀ (V : List Int), eAt (V ++ y :: (π ++ W)) (π ++ W).length = y := by
      intro V
      induction V with
      | nil => rw [List.nil_append, eAt, if_pos rfl]
      | cons z V ihV =>
        show (if (π ++ W).length = (V ++ y :: (π ++ W)).length then z else eAt (V ++ y :: (π ++ W)) (π ++ W).length) = y
        rw [if_neg (by simp only [List.length_append, List.length_cons]; omega)]
        exact ihV
    have c := o2 (π ++ W).length (by omega)
    rw [at' V] at c
    have l : fM_qBracket_l7 h (jz ((π ++ W).length : Int)) = some (.inl (jz (((π ++ W).length : Int) - 1))) := by
      simp only [fM_qBracket_l7, fM_qBracket_l7_b]
      rw [o3, if_neg (by rw [jz_lt (by omega) (by omega) (by omega) (by omega)]; omega), if_pos (by rw [jin_z (by omega) (by omega)]; omega), jz_ix (by omega) (by omega), Int.toNat_natCast, c, sM_isBr (by omega), if_neg (show ¬ (20 ≤ y ∧ y ≤ 24) by omega), if_pos rfl, show (-1 : Int32) = jz (-1) from rfl, jz_add]
      rfl
    rw [e1, jlim_eq, l]
    exact i1
theorem sM_brk {π : List Int} (O : mO (π ++ W) b a C md h) (hp : ∀ x ∈ π, xop x) (hw : xbr W b) : (W.length = b → fM_qBracket h = some (jz (-1))) ∧ (∀ x r, W = x :: r → b < W.length → fM_qBracket h = some (jz x)) := by
  have l := sM_bracket π [] h O hp hw
  obtain ⟨o1, o2, o3, o4, o5, o6, o7, o8, o9, o10, o11, o12, o13⟩ := O
  have e1 : h.1 110 82 - 1 = jz (((π ++ W).length : Int) - 1) := by rw [o1, show (1 : Int32) = jz 1 from rfl, jz_sub]
  have lb : (π ++ W).length = π.length + W.length := List.length_append ..
  constructor
  · intro hb
    unfold fM_qBracket
    rw [e1, l, Option.bind_some, o3, if_pos (by rw [jz_lt (by omega) (by omega) (by omega) (by omega)]; omega)]
    rfl
  · rintro x r rfl hb
    simp only [List.length_cons] at hb lb
    have e2 : (((x :: r).length : Nat) : Int) - 1 = (r.length : Int) := by simp only [List.length_cons]; omega
    have at' : ∀ (V : List Int), eAt (V ++ x :: r) r.length = x := by
      intro V
      induction V with
      | nil => rw [List.nil_append, eAt, if_pos rfl]
      | cons z V ihV =>
        show (if r.length = (V ++ x :: r).length then z else eAt (V ++ x :: r) r.length) = x
        rw [if_neg (by simp only [List.length_append, List.length_cons]; omega)]
        exact ihV
    have c := o2 r.length (by omega)
    rw [at' π] at c
    unfold fM_qBracket
    rw [e1, l, Option.bind_some, o3, e2, if_neg (by rw [jz_lt (by omega) (by omega) (by omega) (by omega)]; omega), if_pos (by rw [jin_z (by omega) (by omega)]; omega), jz_ix (by omega) (by omega), Int.toNat_natCast, c]
/-- is x on top -/
theorem sM_isOn {x y : Int} (O : mO (x :: W) b a C md h) (hy : 0 ≤ y ∧ y ≤ 100) : fM_qIsOn (jz y) h = some (if x = y then 1 else 0) := by
  obtain ⟨t1, t2, t3, t4⟩ := mO_top O
  have xb := O.2.2.2.2.2.2.2.2.2.2.1 x (List.mem_cons_self ..)
  have o1 := O.1
  have o9 := O.2.2.2.2.2.2.2.2.1
  simp only [List.length_cons] at o1 o9
  unfold fM_qIsOn
  rw [if_pos (by rw [o1, show (0 : Int32) = jz 0 from rfl, jz_lt (by omega) (by omega) (by omega) (by omega)]; omega), t2, if_pos t4, t3, t1]
  by_cases q : x = y
  · rw [if_pos q, if_pos (by rw [q])]
  · rw [if_neg q, if_neg (by rw [jz_eq (by omega) (by omega) (by omega) (by omega)]; exact q)]
theorem sM_isOn0 (O : mO [] b a C md h) (y : Int32) : fM_qIsOn y h = some 0 := by
  have o1 := O.1
  unfold fM_qIsOn
  rw [o1, if_neg (by decide)]
end XO
