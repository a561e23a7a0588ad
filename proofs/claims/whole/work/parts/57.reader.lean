/-! the class's Reader -/
/-- the tape, the class's -/
def xTc (n : Nat) (T : Nat → Nat) (h : jH) : Prop := n ≤ 1600 ∧ h.1 2 1 = jz n ∧ ∀ k, k < n → T k < 256 ∧ h.1 3 k = jz (T k)
def x6 (o _k : Nat) : Prop := o = 6
theorem x6_I {h h1 : jH} {k : Nat} (a : eFr x6 h h1) (v : Int32) : eFr x6 h (jhI h1 6 k v) := eFr_I (S := x6) a rfl v
theorem xTc_fr {n : Nat} {T : Nat → Nat} {h h' : jH} (t : xTc n T h) (f : ∀ o k, o = 2 ∨ o = 3 → h'.1 o k = h.1 o k) : xTc n T h' :=
  ⟨t.1, by rw [f _ _ (by omega)]; exact t.2.1, fun k hk => by rw [f _ _ (by omega)]; exact t.2.2 k hk⟩
section XS
variable {n : Nat} {T : Nat → Nat} {h : jH}
theorem xTc_6 {h' : jH} (t : xTc n T h) (f : eFr x6 h h') : xTc n T h' := xTc_fr t (fun o k hk => f.1 o k (by unfold x6; omega))
theorem sTp_byte {k : Nat} (t : xTc n T h) (hk : k < n) : fTp_byteAt 2 (jz k) h = some (jz (T k)) := by
  obtain ⟨t1, t2, t3⟩ := t
  have t4 := (t3 k hk).2
  unfold fTp_byteAt
  rw [jss_3]
  simp (disch := omega) only [Bool.false_eq_true, jz_lit, jz_neg, jz_nat, jz_add, jz_sub, jz_mul, jz_lt, jz_le, jz_eq, jz_ix, jin_z, jz_div, jzw, jwz, jw_lit, jw_neg, jw_add, jw_sub, jw_mul, jw_lt, jw_le, jw_eq, jw_div, Int.toNat_natCast, if_pos, if_neg, if_true, if_false, Option.bind_some, Int.natCast_add, Int.natCast_mul, Int.cast_ofNat_Int, Int.reduceToNat, Int.reduceAdd, Int.reduceMul, Int.reduceSub, Int.reduceNeg, Nat.reduceAdd, Nat.reduceMul, t2, t4]
theorem sTp_byteN (t : xTc n T h) : fTp_byteAt 2 (jz n) h = some (jz (-1)) := by
  obtain ⟨t1, t2, t3⟩ := t
  unfold fTp_byteAt
  simp (disch := omega) only [Bool.false_eq_true, jz_lit, jz_neg, jz_nat, jz_add, jz_sub, jz_mul, jz_lt, jz_le, jz_eq, jz_ix, jin_z, jz_div, jzw, jwz, jw_lit, jw_neg, jw_add, jw_sub, jw_mul, jw_lt, jw_le, jw_eq, jw_div, Int.toNat_natCast, if_pos, if_neg, if_true, if_false, Option.bind_some, Int.natCast_add, Int.natCast_mul, Int.cast_ofNat_Int, Int.reduceToNat, Int.reduceAdd, Int.reduceMul, Int.reduceSub, Int.reduceNeg, Nat.reduceAdd, Nat.reduceMul, t2]
theorem sRd_blank {c : Nat} (hc : c < 256) : fRd_isBlank (jz c) = if xB c = true then jz 1 else jz 0 := by
  unfold fRd_isBlank xB
  by_cases c1 : c = 32
  · subst c1; rfl
  · by_cases c2 : c = 10
    · subst c2; rfl
    · rw [if_neg (show ¬ decide (c = 10 ∨ c = 32) = true by simp; omega)]
      simp (disch := omega) only [Bool.false_eq_true, jz_lit, jz_neg, jz_nat, jz_add, jz_sub, jz_mul, jz_lt, jz_le, jz_eq, jz_ix, jin_z, jz_div, jzw, jwz, jw_lit, jw_neg, jw_add, jw_sub, jw_mul, jw_lt, jw_le, jw_eq, jw_div, Int.toNat_natCast, if_pos, if_neg, if_true, if_false, Option.bind_some, Int.natCast_add, Int.natCast_mul, Int.cast_ofNat_Int, Int.reduceToNat, Int.reduceAdd, Int.reduceMul, Int.reduceSub, Int.reduceNeg, Nat.reduceAdd, Nat.reduceMul]
theorem sRd_sort {c : Nat} (hc : c < 256) : fRd_sortOf (jz c) h = if xL c = true then jz 1 else if xD c = true then jz 2 else jz 3 := by
  unfold fRd_sortOf fRd_sortOf_j21 xL xD
  by_cases c1 : c < 97
  · rw [if_neg (show ¬ decide (97 ≤ c ∧ c ≤ 122) = true by simp; omega)]
    by_cases c2 : c < 48
    · rw [if_neg (show ¬ decide (48 ≤ c ∧ c ≤ 57) = true by simp; omega)]
      simp (disch := omega) only [Bool.false_eq_true, jz_lit, jz_neg, jz_nat, jz_add, jz_sub, jz_mul, jz_lt, jz_le, jz_eq, jz_ix, jin_z, jz_div, jzw, jwz, jw_lit, jw_neg, jw_add, jw_sub, jw_mul, jw_lt, jw_le, jw_eq, jw_div, Int.toNat_natCast, if_pos, if_neg, if_true, if_false, Option.bind_some, Int.natCast_add, Int.natCast_mul, Int.cast_ofNat_Int, Int.reduceToNat, Int.reduceAdd, Int.reduceMul, Int.reduceSub, Int.reduceNeg, Nat.reduceAdd, Nat.reduceMul]
    · by_cases c3 : 57 < c
      · rw [if_neg (show ¬ decide (48 ≤ c ∧ c ≤ 57) = true by simp; omega)]
        simp (disch := omega) only [Bool.false_eq_true, jz_lit, jz_neg, jz_nat, jz_add, jz_sub, jz_mul, jz_lt, jz_le, jz_eq, jz_ix, jin_z, jz_div, jzw, jwz, jw_lit, jw_neg, jw_add, jw_sub, jw_mul, jw_lt, jw_le, jw_eq, jw_div, Int.toNat_natCast, if_pos, if_neg, if_true, if_false, Option.bind_some, Int.natCast_add, Int.natCast_mul, Int.cast_ofNat_Int, Int.reduceToNat, Int.reduceAdd, Int.reduceMul, Int.reduceSub, Int.reduceNeg, Nat.reduceAdd, Nat.reduceMul]
      · rw [if_pos (show decide (48 ≤ c ∧ c ≤ 57) = true by simp; omega)]
        simp (disch := omega) only [Bool.false_eq_true, jz_lit, jz_neg, jz_nat, jz_add, jz_sub, jz_mul, jz_lt, jz_le, jz_eq, jz_ix, jin_z, jz_div, jzw, jwz, jw_lit, jw_neg, jw_add, jw_sub, jw_mul, jw_lt, jw_le, jw_eq, jw_div, Int.toNat_natCast, if_pos, if_neg, if_true, if_false, Option.bind_some, Int.natCast_add, Int.natCast_mul, Int.cast_ofNat_Int, Int.reduceToNat, Int.reduceAdd, Int.reduceMul, Int.reduceSub, Int.reduceNeg, Nat.reduceAdd, Nat.reduceMul]
  · by_cases c2 : 122 < c
    · rw [if_neg (show ¬ decide (97 ≤ c ∧ c ≤ 122) = true by simp; omega), if_neg (show ¬ decide (48 ≤ c ∧ c ≤ 57) = true by simp; omega)]
      simp (disch := omega) only [Bool.false_eq_true, jz_lit, jz_neg, jz_nat, jz_add, jz_sub, jz_mul, jz_lt, jz_le, jz_eq, jz_ix, jin_z, jz_div, jzw, jwz, jw_lit, jw_neg, jw_add, jw_sub, jw_mul, jw_lt, jw_le, jw_eq, jw_div, Int.toNat_natCast, if_pos, if_neg, if_true, if_false, Option.bind_some, Int.natCast_add, Int.natCast_mul, Int.cast_ofNat_Int, Int.reduceToNat, Int.reduceAdd, Int.reduceMul, Int.reduceSub, Int.reduceNeg, Nat.reduceAdd, Nat.reduceMul]
    · rw [if_pos (show decide (97 ≤ c ∧ c ≤ 122) = true by simp; omega)]
      simp (disch := omega) only [Bool.false_eq_true, jz_lit, jz_neg, jz_nat, jz_add, jz_sub, jz_mul, jz_lt, jz_le, jz_eq, jz_ix, jin_z, jz_div, jzw, jwz, jw_lit, jw_neg, jw_add, jw_sub, jw_mul, jw_lt, jw_le, jw_eq, jw_div, Int.toNat_natCast, if_pos, if_neg, if_true, if_false, Option.bind_some, Int.natCast_add, Int.natCast_mul, Int.cast_ofNat_Int, Int.reduceToNat, Int.reduceAdd, Int.reduceMul, Int.reduceSub, Int.reduceNeg, Nat.reduceAdd, Nat.reduceMul]
theorem sRd_sortN : fRd_sortOf (jz (-1)) h = jz 0 := rfl
theorem sRd_skip (v1 v2 : Int32) : ∀ (m i : Nat), n - i = m → ∀ h, xTc n T h → h.1 6 1 = jz i → i ≤ n → ∃ h', jlim (fRd_step_l32 v1 v2) h = some h' ∧ h'.1 6 1 = jz (xSk n T i) ∧ eFr (fun o k => o = 6 ∧ k = 1) h h' := by
  intro m
  induction m with
  | zero =>
    intro i hm h t hi hn
    refine ⟨h, ?_, ?_, eFr_refl _ _⟩
    · have hb := t.1
      rw [jlim_eq]
      simp only [fRd_step_l32, fRd_step_l32_b, fTp_size, hi, t.2.1]
      rw [if_neg (by rw [jz_lt (by omega) (by omega) (by omega) (by omega)]; omega)]
    · rw [hi]
      unfold xSk
      rw [xRun_st (by omega)]
  | succ m ih =>
    intro i hm h t hi hn
    have hb := t.1
    have tk := t.2.2 i (by omega)
    have bt := sTp_byte t (show i < n by omega)
    rw [jlim_eq]
    simp only [fRd_step_l32, fRd_step_l32_b, fTp_size, hi, t.2.1]
    rw [if_pos (by rw [jz_lt (by omega) (by omega) (by omega) (by omega)]; omega), bt, Option.bind_some, sRd_blank tk.1]
    by_cases c : xB (T i) = true
    · rw [if_pos c, if_neg (by decide)]
      have e1 : jz (i : Int) + 1 = jz ((i + 1 : Nat) : Int) := by rw [show (1 : Int32) = jz 1 from rfl, jz_add]; rfl
      obtain ⟨h', e2, e3, e4⟩ := ih (i + 1) (by omega) (jhI h 6 1 (jz ((i + 1 : Nat) : Int))) (xTc_fr t (fun o k hk => by rw [jhI_1, if_neg (by omega)])) rfl (by omega)
      refine ⟨h', ?_, ?_, eFr_trans (eFr_I (S := fun o k => o = 6 ∧ k = 1) (eFr_refl _ _) ⟨rfl, rfl⟩ _) e4⟩
      · rw [e1]; exact e2
      · rw [e3]
        unfold xSk
        rw [xRun_go (s := i) (by omega) c]
    · rw [if_neg c, if_pos (show jz 0 = 0 from rfl)]
      refine ⟨h, rfl, ?_, eFr_refl _ _⟩
      rw [hi]
      unfold xSk
      rw [xRun_st (fun t => c t.2)]
theorem jbit_let_t : (List.range 27).all (fun c => (List.range 6).all (fun k => decide ((jz (c : Int) <<< ((5 * jz (k : Int)) &&& 31)) = jz ((c * 32 ^ k : Nat) : Int)))) = true := by decide +kernel
theorem jbit_let {c k : Nat} (hc : c < 27) (hk : k < 6) : (jz (c : Int) <<< ((5 * jz (k : Int)) &&& 31)) = jz ((c * 32 ^ k : Nat) : Int) :=
  of_decide_eq_true (List.all_eq_true.mp (List.all_eq_true.mp jbit_let_t c (List.mem_range.mpr hc)) k (List.mem_range.mpr hk))
theorem or_add {v m k : Nat} (h : v < 32 ^ k) : v ||| m * 32 ^ k = v + m * 32 ^ k := by
  have h1 : (32 : Nat) ^ k = 2 ^ (5 * k) := by rw [Nat.pow_mul]
  rw [h1] at h ⊢
  have := Nat.two_pow_add_eq_or_of_lt h m
  rw [Nat.or_comm, Nat.mul_comm m, ← this, Nat.add_comm]
theorem sWd_with {v k c : Nat} (hk : k < 6) (hv : v < 32 ^ k) (hc : xL c = true) : fWd_withLetter (jz v) (jz k) (jz c) h = jz ((v + (c - 96) * 32 ^ k : Nat) : Int) := by
  have hb := xL_b hc
  have e1 : (jz (c : Int) - 97) + 1 = jz ((c - 96 : Nat) : Int) := by
    rw [show (97 : Int32) = jz 97 from rfl, jz_sub, show (1 : Int32) = jz 1 from rfl, jz_add]
    congr 1
    omega
  unfold fWd_withLetter fWd_withLetter_j15
  rw [if_neg (by rw [show (0 : Int32) = jz 0 from rfl, jz_lt (by omega) (by omega) (by omega) (by omega)]; omega), if_pos (by rw [show (6 : Int32) = jz 6 from rfl, jz_lt (by omega) (by omega) (by omega) (by omega)]; omega), if_neg (by decide), e1, jbit_let (by omega) hk, jbit_or, or_add hv]
theorem sWd_with7 {v c : Int32} {k : Nat} (hk : 6 ≤ k) (hk2 : k < 2000) : fWd_withLetter v (jz k) c h = jz 0 := by
  unfold fWd_withLetter fWd_withLetter_j14 fWd_withLetter_j15
  rw [if_neg (by rw [show (0 : Int32) = jz 0 from rfl, jz_lt (by omega) (by omega) (by omega) (by omega)]; omega), if_neg (by rw [show (6 : Int32) = jz 6 from rfl, jz_lt (by omega) (by omega) (by omega) (by omega)]; omega), if_pos rfl]
  rfl
def x24 (o k : Nat) : Prop := o = 6 ∧ (k = 2 ∨ k = 4)
theorem xTc_24 {h' : jH} (t : xTc n T h) (f : eFr x24 h h') : xTc n T h' := xTc_fr t (fun o k hk => f.1 o k (by unfold x24; omega))
theorem sRd_runL {s : Nat} : ∀ (m i : Nat), n - i = m → s ≤ i → i ≤ n → (∀ j, s ≤ j → j < i → xL (T j) = true) → ∀ h, xTc n T h → h.1 6 1 = jz s → h.1 6 2 = jz i → h.1 6 4 = jz ((if i - s ≤ 6 then xPk T s (i - s) else 0 : Nat) : Int) → ∃ h', jlim (fRd_step_l190 (jz 1) (jz 1)) h = some h' ∧ h'.1 6 2 = jz (xRun n T xL i) ∧ h'.1 6 4 = jz ((if xRun n T xL i - s ≤ 6 then xPk T s (xRun n T xL i - s) else 0 : Nat) : Int) ∧ eFr x24 h h' := by
  intro m
  induction m with
  | zero =>
    intro i hm hs hn hl h t h1 h2 h4
    have hb := t.1
    refine ⟨h, ?_, ?_, ?_, eFr_refl _ _⟩
    · rw [jlim_eq]
      simp only [fRd_step_l190, fRd_step_l190_b, fTp_size, h2, t.2.1]
      rw [if_neg (show ¬ jz 1 = 0 by decide), if_neg (by rw [jz_lt (by omega) (by omega) (by omega) (by omega)]; omega)]
    · rw [xRun_st (by omega)]; exact h2
    · rw [xRun_st (by omega)]; exact h4
  | succ m ih =>
    intro i hm hs hn hl h t h1 h2 h4
    have hb := t.1
    have tk := t.2.2 i (by omega)
    have bt := sTp_byte t (show i < n by omega)
    rw [jlim_eq]
    simp only [fRd_step_l190, fRd_step_l190_b, fRd_step_l190_j282, fTp_size, h2, t.2.1]
    rw [if_neg (show ¬ jz 1 = 0 by decide), if_pos (by rw [jz_lt (by omega) (by omega) (by omega) (by omega)]; omega), bt, Option.bind_some, sRd_sort tk.1]
    by_cases c : xL (T i) = true
    · rw [if_pos c, if_pos rfl, Option.bind_some, if_pos (show jz 1 = 1 from rfl)]
      have e0 : jz (i : Int) - jz (s : Int) = jz ((i - s : Nat) : Int) := by rw [jz_sub]; congr 1; omega
      have e1 : jz (i : Int) + 1 = jz ((i + 1 : Nat) : Int) := by rw [show (1 : Int32) = jz 1 from rfl, jz_add]; rfl
      have ev : fWd_withLetter (h.1 6 4) (jz (i : Int) - h.1 6 1) (jz (T i : Int)) h = jz ((if i + 1 - s ≤ 6 then xPk T s (i + 1 - s) else 0 : Nat) : Int) := by
        rw [h1, e0, h4]
        by_cases c6 : i - s < 6
        · have hp := xPk_lt (T := T) (s := s) (i - s) (fun j hj => hl _ (by omega) (by omega))
          rw [if_pos (by omega), if_pos (by omega), sWd_with c6 hp c, show i + 1 - s = (i - s) + 1 by omega]
          show _ = jz ((xPk T s (i - s) + (T (s + (i - s)) - 96) * 32 ^ (i - s) : Nat) : Int)
          rw [show s + (i - s) = i by omega]
        · rw [sWd_with7 (by omega) (by omega), if_neg (show ¬ i + 1 - s ≤ 6 by omega)]
          rfl
      rw [ev]
      have e2 : (jhI h 6 4 (jz ((if i + 1 - s ≤ 6 then xPk T s (i + 1 - s) else 0 : Nat) : Int))).1 6 2 = jz i := by rw [jhI_1, if_neg (by omega)]; exact h2
      rw [e2, e1]
      have f0 : eFr x24 h (jhI (jhI h 6 4 (jz ((if i + 1 - s ≤ 6 then xPk T s (i + 1 - s) else 0 : Nat) : Int))) 6 2 (jz ((i + 1 : Nat) : Int))) := eFr_I (eFr_I (eFr_refl _ _) (show x24 6 4 from ⟨rfl, Or.inr rfl⟩) _) (show x24 6 2 from ⟨rfl, Or.inl rfl⟩) _
      obtain ⟨h', q1, q2, q3, q4⟩ := ih (i + 1) (by omega) (by omega) (by omega) (fun j h5 h6 => by
        by_cases e : j = i
        · subst e; exact c
        · exact hl j h5 (by omega)) _ (xTc_24 t f0) (by rw [f0.1 _ _ (by unfold x24; omega)]; exact h1) rfl rfl
      refine ⟨h', q1, ?_, ?_, eFr_trans f0 q4⟩
      · rw [xRun_go (s := i) (by omega) c]; exact q2
      · rw [xRun_go (s := i) (by omega) c]; exact q3
    · rw [if_neg c, if_neg (by split <;> decide)]
      refine ⟨h, rfl, ?_, ?_, eFr_refl _ _⟩
      · rw [xRun_st (fun t => c t.2)]; exact h2
      · rw [xRun_st (fun t => c t.2)]; exact h4
theorem sRd_runD {s : Nat} : ∀ (m i : Nat), n - i = m → s ≤ i → i ≤ n → (∀ j, s ≤ j → j < i → xD (T j) = true) → ∀ h, xTc n T h → h.1 6 1 = jz s → h.1 6 2 = jz i → h.1 6 4 = jz (xNm T s (i - s) : Int) → ∃ h', jlim (fRd_step_l190 (jz 2) (jz 1)) h = some h' ∧ h'.1 6 2 = jz (xRun n T xD i) ∧ h'.1 6 4 = jz (xNm T s (xRun n T xD i - s) : Int) ∧ eFr x24 h h' := by
  intro m
  induction m with
  | zero =>
    intro i hm hs hn hl h t h1 h2 h4
    have hb := t.1
    refine ⟨h, ?_, ?_, ?_, eFr_refl _ _⟩
    · rw [jlim_eq]
      simp only [fRd_step_l190, fRd_step_l190_b, fTp_size, h2, t.2.1]
      rw [if_neg (show ¬ jz 1 = 0 by decide), if_neg (by rw [jz_lt (by omega) (by omega) (by omega) (by omega)]; omega)]
    · rw [xRun_st (by omega)]; exact h2
    · rw [xRun_st (by omega)]; exact h4
  | succ m ih =>
    intro i hm hs hn hl h t h1 h2 h4
    have hb := t.1
    have tk := t.2.2 i (by omega)
    have bt := sTp_byte t (show i < n by omega)
    rw [jlim_eq]
    simp only [fRd_step_l190, fRd_step_l190_b, fRd_step_l190_j282, fTp_size, h2, t.2.1]
    rw [if_neg (show ¬ jz 1 = 0 by decide), if_pos (by rw [jz_lt (by omega) (by omega) (by omega) (by omega)]; omega), bt, Option.bind_some, sRd_sort tk.1]
    by_cases c : xD (T i) = true
    · have cl : ¬ xL (T i) = true := fun u => by rw [xL_D u] at c; cases c
      have hd := xD_b c
      have e0 : jz (i : Int) - jz (s : Int) = jz ((i - s : Nat) : Int) := by rw [jz_sub]; congr 1; omega
      have e1 : jz (i : Int) + 1 = jz ((i + 1 : Nat) : Int) := by rw [show (1 : Int32) = jz 1 from rfl, jz_add]; rfl
      have go : ∀ y : jH, eFr x24 h y → y.1 6 2 = jz ((i + 1 : Nat) : Int) → y.1 6 4 = jz (xNm T s (i + 1 - s) : Int) → ∃ h', jlim (fRd_step_l190 (jz 2) (jz 1)) y = some h' ∧ h'.1 6 2 = jz (xRun n T xD i) ∧ h'.1 6 4 = jz (xNm T s (xRun n T xD i - s) : Int) ∧ eFr x24 h h' := by
        intro y f0 y2 y4
        obtain ⟨h', q1, q2, q3, q4⟩ := ih (i + 1) (by omega) (by omega) (by omega) (fun j h5 h6 => by
          by_cases e : j = i
          · subst e; exact c
          · exact hl j h5 (by omega)) y (xTc_24 t f0) (by rw [f0.1 _ _ (by unfold x24; omega)]; exact h1) y2 y4
        refine ⟨h', q1, ?_, ?_, eFr_trans f0 q4⟩
        · rw [xRun_go (s := i) (by omega) c]; exact q2
        · rw [xRun_go (s := i) (by omega) c]; exact q3
      have en : xNm T s (i + 1 - s) = if i - s < 4 then 10 * xNm T s (i - s) + (T i - 48) else xNm T s (i - s) := by
        rw [show i + 1 - s = (i - s) + 1 by omega]
        show (if i - s < 4 then 10 * xNm T s (i - s) + (T (s + (i - s)) - 48) else xNm T s (i - s)) = _
        rw [show s + (i - s) = i by omega]
      have ev : fRd_withDigit (h.1 6 4) (jz (i : Int) - h.1 6 1) (jz (T i : Int)) = jz (xNm T s (i + 1 - s) : Int) := by
        unfold fRd_withDigit
        rw [h1, e0, h4]
        by_cases c4 : i - s < 4
        · rw [if_pos (by rw [show (4 : Int32) = jz 4 from rfl, jz_lt (by omega) (by omega) (by omega) (by omega)]; omega)]
          rw [if_pos c4] at en
          rw [en, show (10 : Int32) = jz 10 from rfl, jz_mul, jz_add, show (48 : Int32) = jz 48 from rfl, jz_sub]
          congr 1
          omega
        · rw [if_neg (by rw [show (4 : Int32) = jz 4 from rfl, jz_lt (by omega) (by omega) (by omega) (by omega)]; omega)]
          rw [if_neg c4] at en
          rw [en]
      rw [if_neg cl, if_pos c, if_pos rfl, Option.bind_some, if_neg (show ¬ jz 2 = 1 by decide), ev]
      have e2 : (jhI h 6 4 (jz (xNm T s (i + 1 - s) : Int))).1 6 2 = jz i := by rw [jhI_1, if_neg (by omega)]; exact h2
      rw [e2, e1]
      exact go _ (eFr_I (eFr_I (eFr_refl _ _) (show x24 6 4 from ⟨rfl, Or.inr rfl⟩) _) (show x24 6 2 from ⟨rfl, Or.inl rfl⟩) _) rfl rfl
    · rw [if_neg c, if_neg (by split <;> decide)]
      refine ⟨h, rfl, ?_, ?_, eFr_refl _ _⟩
      · rw [xRun_st (fun t => c t.2)]; exact h2
      · rw [xRun_st (fun t => c t.2)]; exact h4
/-- the Reader stands at s; the last word or number ended at e -/
def cR (n : Nat) (T : Nat → Nat) (e : Int) (s : Nat) (h : jH) : Prop := xTc n T h ∧ s ≤ n ∧ xSk n T s = s ∧ h.1 6 1 = jz s ∧ h.1 6 2 = jz (xAf n T s) ∧ h.1 6 3 = jz (xKd n T e s) ∧ h.1 6 4 = jz (xVl n T s) ∧ h.1 6 5 = jz 0 ∧ h.1 6 6 = jz (-1)
theorem sRd_step {a : Nat} {k e : Int} (t : xTc n T h) (ha : a ≤ n) (h2 : h.1 6 2 = jz a) (h3 : h.1 6 3 = jz k) (hk : 0 ≤ k ∧ k ≤ 5) (h5 : h.1 6 5 = jz 0) (h6 : h.1 6 6 = jz (-1)) (he1 : k = 1 ∨ k = 2 → e = a) (he2 : ¬ (k = 1 ∨ k = 2) → e < xSk n T a) : ∃ h', fRd_step h = some h' ∧ cR n T e (xSk n T a) h' ∧ eFr x6 h h' := by
  have hb := t.1
  obtain ⟨w, hw, hw2⟩ : ∃ w : Int32, fRd_step h = fRd_step_j21 w h ∧ ((w = jz 1 ∧ (k = 1 ∨ k = 2)) ∨ (w = jz 0 ∧ ¬ (k = 1 ∨ k = 2))) := by
    unfold fRd_step fRd_step_j16
    rw [h3]
    by_cases k1 : k = 1
    · subst k1
      exact ⟨jz 1, by rw [if_pos (show jz 1 = 1 from rfl)]; rfl, Or.inl ⟨rfl, Or.inl rfl⟩⟩
    · rw [if_neg (by rw [show (1 : Int32) = jz 1 from rfl, jz_eq (by omega) (by omega) (by omega) (by omega)]; exact k1)]
      by_cases k2 : k = 2
      · subst k2
        exact ⟨jz 1, by rw [if_pos (show jz 2 = 2 from rfl)]; rfl, Or.inl ⟨rfl, Or.inr rfl⟩⟩
      · rw [if_neg (by rw [show (2 : Int32) = jz 2 from rfl, jz_eq (by omega) (by omega) (by omega) (by omega)]; exact k2)]
        exact ⟨jz 0, rfl, Or.inr ⟨rfl, by omega⟩⟩
  rw [hw]
  unfold fRd_step_j21
  rw [h2]
  have f0 : eFr (fun o k => o = 6 ∧ k = 1) h (jhI h 6 1 (jz a)) := eFr_I (S := fun o k => o = 6 ∧ k = 1) (eFr_refl _ _) ⟨rfl, rfl⟩ _
  obtain ⟨x, q1, q2, q3⟩ := sRd_skip (n := n) (T := T) w (jz a) (n - a) a rfl (jhI h 6 1 (jz a)) (xTc_fr t (fun o k hk => f0.1 o k (by omega))) rfl ha
  have fx := eFr_trans f0 q3
  have fx6 : eFr x6 h x := eFr_mono fx (fun o k hk => hk.1)
  have tx : xTc n T x := xTc_6 t fx6
  rw [q1, Option.bind_some, q2]
  have sl := xSk_le (T := T) ha
  have sg := xSk_ge (n := n) (T := T) (s := a)
  have si := xSk_idem (n := n) (T := T) (r := a)
  have x5 : x.1 6 5 = jz 0 := by rw [fx.1 _ _ (by omega)]; exact h5
  have x66 : x.1 6 6 = jz (-1) := by rw [fx.1 _ _ (by omega)]; exact h6
  clear q1 q3 f0 fx hw h2 h3 h5 h6
  generalize xSk n T a = s at *
  have e131 : ∀ (v3 v4 s1 : Int32), fRd_step_j131 v3 v4 s1 x = (if v4 = 0 then (Option.bind (fTp_byteAt 2 (jz s) (jhI x 6 3 s1)) (fun z13 => some (jhI (jhI (jhI x 6 3 s1) 6 4 z13) 6 2 (fMt_min (jz s + 1) (jz n))))) else jlim (fRd_step_l190 v3 v4) (jhI (jhI (jhI x 6 3 s1) 6 4 0) 6 2 (jz s))) := by
    intro v3 v4 s1
    have y1 : (jhI x 6 3 s1).1 6 1 = jz s := by rw [jhI_1, if_neg (by omega)]; exact q2
    have y2 : ∀ z, (jhI (jhI x 6 3 s1) 6 4 z).1 6 1 = jz s := fun z => by rw [jhI_1, if_neg (by omega)]; exact y1
    have y3 : ∀ z, (jhI (jhI x 6 3 s1) 6 4 z).1 2 1 = jz n := fun z => by rw [jhI_1, if_neg (by omega), jhI_1, if_neg (by omega)]; exact tx.2.1
    have z0 : ∀ y, jlim (fRd_step_l190 v3 0) y = some y := fun y => by
      rw [jlim_eq]
      simp only [fRd_step_l190, fRd_step_l190_b, if_true]
    unfold fRd_step_j131 fRd_step_j155 fRd_step_j187 fTp_size
    simp only [y1, y2, y3]
    by_cases c0 : v4 = 0
    · subst c0
      simp only [if_true, z0, Option.bind_some]
    · simp only [if_neg c0]
      exact Option.bind_fun_some _
  by_cases c : s < n
  · have bt := sTp_byte tx c
    have tk := tx.2.2 s c
    rw [bt, Option.bind_some, sRd_sort tk.1]
    by_cases cl : xL (T s) = true
    · rw [if_pos cl, if_pos (show jz 1 = 1 from rfl)]
      have run : ∀ s1 : Int, s1 = xKd n T e s → ∃ h', fRd_step_j131 (jz 1) (jz 1) (jz s1) x = some h' ∧ cR n T e s h' ∧ eFr x6 h h' := by
        intro s1 hs1
        have f1 : eFr x6 x (jhI (jhI (jhI x 6 3 (jz s1)) 6 4 (jz 0)) 6 2 (jz s)) := x6_I (x6_I (x6_I (eFr_refl _ _) _) _) _
        obtain ⟨y, r1, r2, r3, r4⟩ := sRd_runL (n := n) (T := T) (s := s) (n - s) s rfl (Nat.le_refl _) sl (fun j h1 h2 => by omega) (jhI (jhI (jhI x 6 3 (jz s1)) 6 4 (jz 0)) 6 2 (jz s)) (xTc_6 tx f1) (by rw [jhI_1, if_neg (by omega), jhI_1, if_neg (by omega), jhI_1, if_neg (by omega)]; exact q2) rfl (by rw [jhI_1, if_neg (by omega), jhI_1, if_pos ⟨rfl, rfl⟩, Nat.sub_self]; rfl)
        have g6 : eFr x6 h y := eFr_trans fx6 (eFr_trans f1 (eFr_mono r4 (fun o k hk => hk.1)))
        refine ⟨y, ?_, ⟨xTc_6 t g6, sl, si, ?_, ?_, ?_, ?_, ?_, ?_⟩, g6⟩
        · rw [e131, if_neg (by decide)]
          exact r1
        · rw [r4.1 _ _ (by unfold x24; omega), jhI_1, if_neg (by omega), jhI_1, if_neg (by omega), jhI_1, if_neg (by omega)]; exact q2
        · rw [r2]; unfold xAf; rw [if_pos c, if_pos cl]
        · rw [r4.1 _ _ (by unfold x24; omega), jhI_1, if_neg (by omega), jhI_1, if_neg (by omega), jhI_1, if_pos ⟨rfl, rfl⟩, hs1]
        · rw [r3]; unfold xVl xWv; rw [if_pos c, if_pos cl]
        · rw [r4.1 _ _ (by unfold x24; omega), jhI_1, if_neg (by omega), jhI_1, if_neg (by omega), jhI_1, if_neg (by omega)]; exact x5
        · rw [r4.1 _ _ (by unfold x24; omega), jhI_1, if_neg (by omega), jhI_1, if_neg (by omega), jhI_1, if_neg (by omega)]; exact x66
      have kd : xKd n T e s = if (s : Int) = e then 4 else 1 := by unfold xKd; rw [if_pos c, if_pos cl]
      unfold fRd_step_j101 fRd_step_j106 fRd_step_j130
      rcases hw2 with ⟨rfl, hk1⟩ | ⟨rfl, hk1⟩
      · have ea := he1 hk1
        rw [if_neg (by decide), if_neg (by decide), q2]
        by_cases c2 : s = a
        · rw [if_pos (by rw [c2])]
          exact run 4 (by rw [kd, if_pos (by omega)])
        · rw [if_neg (by rw [jz_eq (by omega) (by omega) (by omega) (by omega)]; omega)]
          exact run 1 (by rw [kd, if_neg (by omega)])
      · rw [if_pos (show jz 0 = 0 from rfl)]
        have := he2 hk1
        exact run 1 (by rw [kd, if_neg (by omega)])
    · rw [if_neg cl]
      by_cases cd : xD (T s) = true
      · rw [if_pos cd, if_neg (by decide), if_pos (show jz 2 = 2 from rfl)]
        have run : ∀ s1 : Int, s1 = xKd n T e s → ∃ h', fRd_step_j131 (jz 2) (jz 1) (jz s1) x = some h' ∧ cR n T e s h' ∧ eFr x6 h h' := by
          intro s1 hs1
          have f1 : eFr x6 x (jhI (jhI (jhI x 6 3 (jz s1)) 6 4 (jz 0)) 6 2 (jz s)) := x6_I (x6_I (x6_I (eFr_refl _ _) _) _) _
          obtain ⟨y, r1, r2, r3, r4⟩ := sRd_runD (n := n) (T := T) (s := s) (n - s) s rfl (Nat.le_refl _) sl (fun j h1 h2 => by omega) (jhI (jhI (jhI x 6 3 (jz s1)) 6 4 (jz 0)) 6 2 (jz s)) (xTc_6 tx f1) (by rw [jhI_1, if_neg (by omega), jhI_1, if_neg (by omega), jhI_1, if_neg (by omega)]; exact q2) rfl (by rw [jhI_1, if_neg (by omega), jhI_1, if_pos ⟨rfl, rfl⟩, Nat.sub_self]; rfl)
          have g6 : eFr x6 h y := eFr_trans fx6 (eFr_trans f1 (eFr_mono r4 (fun o k hk => hk.1)))
          refine ⟨y, ?_, ⟨xTc_6 t g6, sl, si, ?_, ?_, ?_, ?_, ?_, ?_⟩, g6⟩
          · rw [e131, if_neg (by decide)]
            exact r1
          · rw [r4.1 _ _ (by unfold x24; omega), jhI_1, if_neg (by omega), jhI_1, if_neg (by omega), jhI_1, if_neg (by omega)]; exact q2
          · rw [r2]; unfold xAf; rw [if_pos c, if_neg cl, if_pos cd]
          · rw [r4.1 _ _ (by unfold x24; omega), jhI_1, if_neg (by omega), jhI_1, if_neg (by omega), jhI_1, if_pos ⟨rfl, rfl⟩, hs1]
          · rw [r3]; unfold xVl xNv; rw [if_pos c, if_neg cl, if_pos cd]
          · rw [r4.1 _ _ (by unfold x24; omega), jhI_1, if_neg (by omega), jhI_1, if_neg (by omega), jhI_1, if_neg (by omega)]; exact x5
          · rw [r4.1 _ _ (by unfold x24; omega), jhI_1, if_neg (by omega), jhI_1, if_neg (by omega), jhI_1, if_neg (by omega)]; exact x66
        have kd : xKd n T e s = if (s : Int) = e then 4 else 2 := by unfold xKd; rw [if_pos c, if_neg cl, if_pos cd]
        unfold fRd_step_j101 fRd_step_j106 fRd_step_j130
        rcases hw2 with ⟨rfl, hk1⟩ | ⟨rfl, hk1⟩
        · have ea := he1 hk1
          rw [if_neg (by decide), if_neg (by decide), q2]
          by_cases c2 : s = a
          · rw [if_pos (by rw [c2])]
            exact run 4 (by rw [kd, if_pos (by omega)])
          · rw [if_neg (by rw [jz_eq (by omega) (by omega) (by omega) (by omega)]; omega)]
            exact run 2 (by rw [kd, if_neg (by omega)])
        · rw [if_pos (show jz 0 = 0 from rfl)]
          have := he2 hk1
          exact run 2 (by rw [kd, if_neg (by omega)])
      · rw [if_neg cd, if_neg (by decide), if_neg (by decide)]
        have e1 : jz (s : Int) + 1 = jz ((s + 1 : Nat) : Int) := by rw [show (1 : Int32) = jz 1 from rfl, jz_add]; rfl
        have mn : fMt_min (jz (s : Int) + 1) (jz n) = jz ((s + 1 : Nat) : Int) := by
          rw [e1]
          unfold fMt_min
          rw [if_neg (by rw [jz_lt (by omega) (by omega) (by omega) (by omega)]; omega)]
        have j106 : fRd_step_j106 w (jz a) (jz 3) 0 x = fRd_step_j131 (jz 3) 0 (jz 3) x := by
          unfold fRd_step_j106 fRd_step_j130
          split
          · rfl
          · rw [if_pos rfl]
        have f1 : eFr x6 x (jhI (jhI (jhI x 6 3 (jz 3)) 6 4 (jz (T s : Int))) 6 2 (jz ((s + 1 : Nat) : Int))) := x6_I (x6_I (x6_I (eFr_refl _ _) _) _) _
        have g6 := eFr_trans fx6 f1
        have bt2 := sTp_byte (xTc_fr tx (h' := jhI x 6 3 (jz 3)) (fun o k hk => by rw [jhI_1, if_neg (by omega)])) c
        refine ⟨_, ?_, ⟨xTc_6 t g6, sl, si, ?_, ?_, ?_, ?_, ?_, ?_⟩, g6⟩
        · rw [j106, e131, if_pos rfl, bt2, Option.bind_some, mn]
        · rw [jhI_1, if_neg (by omega), jhI_1, if_neg (by omega), jhI_1, if_neg (by omega)]; exact q2
        · rw [jhI_1, if_pos ⟨rfl, rfl⟩]; unfold xAf; rw [if_pos c, if_neg cl, if_neg cd]
        · rw [jhI_1, if_neg (by omega), jhI_1, if_neg (by omega), jhI_1, if_pos ⟨rfl, rfl⟩]; unfold xKd; rw [if_pos c, if_neg cl, if_neg cd]
        · rw [jhI_1, if_neg (by omega), jhI_1, if_pos ⟨rfl, rfl⟩]; unfold xVl; rw [if_pos c, if_neg cl, if_neg cd]
        · rw [jhI_1, if_neg (by omega), jhI_1, if_neg (by omega), jhI_1, if_neg (by omega)]; exact x5
        · rw [jhI_1, if_neg (by omega), jhI_1, if_neg (by omega), jhI_1, if_neg (by omega)]; exact x66
  · have hs : s = n := by omega
    rw [hs, sTp_byteN tx, Option.bind_some, sRd_sortN, if_neg (by decide), if_neg (by decide)]
    have mn : fMt_min (jz (s : Int) + 1) (jz n) = jz n := by
      rw [show (1 : Int32) = jz 1 from rfl, jz_add]
      unfold fMt_min
      rw [if_pos (by rw [jz_lt (by omega) (by omega) (by omega) (by omega)]; omega)]
    have j106 : fRd_step_j106 w (jz a) (jz 0) 0 x = fRd_step_j131 (jz 0) 0 (jz 0) x := by
      unfold fRd_step_j106 fRd_step_j130
      split
      · rfl
      · rw [if_pos rfl]
    have f1 : eFr x6 x (jhI (jhI (jhI x 6 3 (jz 0)) 6 4 (jz (-1))) 6 2 (jz n)) := x6_I (x6_I (x6_I (eFr_refl _ _) _) _) _
    have g6 := eFr_trans fx6 f1
    have bt2 := sTp_byteN (xTc_fr tx (h' := jhI x 6 3 (jz 0)) (fun o k hk => by rw [jhI_1, if_neg (by omega)]))
    rw [← hs] at bt2
    rw [hs] at sl si q2
    refine ⟨_, ?_, ⟨xTc_6 t g6, sl, si, ?_, ?_, ?_, ?_, ?_, ?_⟩, g6⟩
    · rw [j106, e131, if_pos rfl, bt2, Option.bind_some, mn]
    · rw [jhI_1, if_neg (by omega), jhI_1, if_neg (by omega), jhI_1, if_neg (by omega)]; exact q2
    · rw [jhI_1, if_pos ⟨rfl, rfl⟩]; unfold xAf; rw [if_neg (by omega)]
    · rw [jhI_1, if_neg (by omega), jhI_1, if_neg (by omega), jhI_1, if_pos ⟨rfl, rfl⟩]; unfold xKd; rw [if_neg (by omega)]
    · rw [jhI_1, if_neg (by omega), jhI_1, if_pos ⟨rfl, rfl⟩]; unfold xVl; rw [if_neg (by omega)]
    · rw [jhI_1, if_neg (by omega), jhI_1, if_neg (by omega), jhI_1, if_neg (by omega)]; exact x5
    · rw [jhI_1, if_neg (by omega), jhI_1, if_neg (by omega), jhI_1, if_neg (by omega)]; exact x66
end XS
