/-! what the reference takes -/
def xTm (n : Nat) (T : Nat → Nat) (h : jH) : Prop := n ≤ 1600 ∧ ∀ k, k < n → T k < 256 ∧ h.1 111 k = jz (T k)
def xm (o k : Nat) : Prop := o = 110 ∧ (k = 2 ∨ k = 4 ∨ k = 5 ∨ k = 6 ∨ k = 35)
def xm2 (o k : Nat) : Prop := o = 110 ∧ k = 2
theorem xm2_I {h h1 : jH} (a : eFr xm2 h h1) (v : Int32) : eFr xm2 h (jhI h1 110 2 v) := eFr_I (S := xm2) a ⟨rfl, rfl⟩ v
theorem xm_I2 {h h1 : jH} (a : eFr xm h h1) (v : Int32) : eFr xm h (jhI h1 110 2 v) := eFr_I (S := xm) a ⟨rfl, Or.inl rfl⟩ v
theorem xm_I4 {h h1 : jH} (a : eFr xm h h1) (v : Int32) : eFr xm h (jhI h1 110 4 v) := eFr_I (S := xm) a ⟨rfl, Or.inr (Or.inl rfl)⟩ v
theorem xm_I5 {h h1 : jH} (a : eFr xm h h1) (v : Int32) : eFr xm h (jhI h1 110 5 v) := eFr_I (S := xm) a ⟨rfl, Or.inr (Or.inr (Or.inl rfl))⟩ v
theorem xm_I6 {h h1 : jH} (a : eFr xm h h1) (v : Int32) : eFr xm h (jhI h1 110 6 v) := eFr_I (S := xm) a ⟨rfl, Or.inr (Or.inr (Or.inr (Or.inl rfl)))⟩ v
theorem xm_I35 {h h1 : jH} (a : eFr xm h h1) (v : Int32) : eFr xm h (jhI h1 110 35 v) := eFr_I (S := xm) a ⟨rfl, Or.inr (Or.inr (Or.inr (Or.inr rfl)))⟩ v
theorem xm_2 {h h1 : jH} (a : eFr xm2 h h1) : eFr xm h h1 := eFr_mono a (fun o k hk => ⟨hk.1, Or.inl hk.2⟩)
/-- the reference stands ahead of s, all blank before it -/
def mR (n : Nat) (T : Nat → Nat) (e : Int) (s : Nat) (h : jH) : Prop := xTm n T h ∧ eWd h ∧ s ≤ n ∧ (∃ r : Nat, r ≤ s ∧ xSk n T r = s ∧ e ≤ r ∧ h.1 110 2 = jz r) ∧ h.1 110 3 = jz n ∧ h.1 110 4 = jz e ∧ -1 ≤ e ∧ h.1 110 5 = jz 0 ∧ h.1 110 6 = jz (-1)
def mL (n : Nat) (T : Nat → Nat) (e : Int) (s : Nat) (h : jH) : Prop := mR n T e s h ∧ h.1 110 2 = jz s
def mF (n : Nat) (T : Nat → Nat) (f pl : Int) (h : jH) : Prop := xTm n T h ∧ eWd h ∧ (∃ r : Nat, r ≤ n ∧ h.1 110 2 = jz r) ∧ h.1 110 3 = jz n ∧ 1 ≤ f ∧ f ≤ 5 ∧ h.1 110 5 = jz f ∧ h.1 110 6 = jz pl
/-- what stands there; -1 behind the end -/
def xCh (n : Nat) (T : Nat → Nat) (s : Nat) : Int := if s < n then (T s : Int) else -1
/-- the reference's word M is word i -/
def xMw (M i : Nat) : Prop := i < 31 ∧ (jsh M).2 = (xw i).length ∧ (M, xw i) ∈ jwtab
section XM
variable {n : Nat} {T : Nat → Nat} {e : Int} {s : Nat} {h : jH} {f pl : Int}
theorem xTm_fr {h' : jH} (t : xTm n T h) (a : ∀ k, h'.1 111 k = h.1 111 k) : xTm n T h' := ⟨t.1, fun k hk => by rw [a]; exact t.2 k hk⟩
theorem xTm_m {h' : jH} (t : xTm n T h) (a : eFr xm h h') : xTm n T h' := xTm_fr t (fun k => a.1 _ _ (by unfold xm; omega))
theorem eWd_m {h' : jH} (t : eWd h) (a : eFr xm h h') : eWd h' := eWd_fr (fun o k hk => a.1 _ _ (by unfold xm; omega)) t
theorem xSk_nb (c0 : s < n) (hs : xSk n T s = s) : xB (T s) = false := by
  have := xRun_end2 (n := n) (T := T) (P := xB) (s := s) (by unfold xSk at hs; omega)
  unfold xSk at hs
  rw [hs] at this
  exact this
theorem sM_lookl : ∀ (m r : Nat), n - r = m → ∀ h, xTm n T h → h.1 110 3 = jz n → h.1 110 2 = jz r → r ≤ n → ∃ h', jlim fM_look_l0 h = some h' ∧ h'.1 110 2 = jz (xSk n T r) ∧ eFr xm2 h h' ∧ (xSk n T r = r → h' = h) := by
  intro m
  induction m with
  | zero =>
    intro r hm h t h3 h2 hr
    have hb := t.1
    refine ⟨h, ?_, ?_, eFr_refl _ _, fun _ => rfl⟩
    · rw [jlim_eq]
      simp only [fM_look_l0, fM_look_l0_b, h2, h3]
      rw [if_neg (by rw [jz_lt (by omega) (by omega) (by omega) (by omega)]; omega)]
    · unfold xSk
      rw [xRun_st (by omega)]; exact h2
  | succ m ih =>
    intro r hm h t h3 h2 hr
    have hb := t.1
    have tk := t.2 r (by omega)
    have ix : (jz (r : Int)).toNatClampNeg = r := by rw [jz_ix (by omega) (by omega), Int.toNat_natCast]
    have ji : jin (jz (r : Int)) 1600 := by rw [jin_z (by omega) (by omega)]; omega
    have e1 : jz (r : Int) + 1 = jz ((r + 1 : Nat) : Int) := by rw [show (1 : Int32) = jz 1 from rfl, jz_add]; rfl
    have st : fM_look_l0 h = if xB (T r) = true then some (.inl (jhI h 110 2 (jz ((r + 1 : Nat) : Int)))) else some (.inr h) := by
      simp only [fM_look_l0, fM_look_l0_b, fM_look_l0_j39, h2, h3]
      rw [if_pos (by rw [jz_lt (by omega) (by omega) (by omega) (by omega)]; omega), if_pos ji]
      simp only [ix, tk.2, e1, if_pos ji]
      by_cases c1 : T r = 10
      · rw [c1, if_pos (show jz ((10 : Nat) : Int) = 10 from rfl), if_pos (show xB 10 = true from rfl)]
      · rw [if_neg (by rw [show (10 : Int32) = jz 10 from rfl, jz_eq (by omega) (by omega) (by omega) (by omega)]; omega)]
        by_cases c2 : T r = 32
        · rw [c2, if_pos (show jz ((32 : Nat) : Int) = 32 from rfl), if_pos (show xB 32 = true from rfl)]
        · rw [if_neg (by rw [show (32 : Int32) = jz 32 from rfl, jz_eq (by omega) (by omega) (by omega) (by omega)]; omega), if_neg (show ¬ xB (T r) = true by unfold xB; simp; omega)]
    rw [jlim_eq, st]
    by_cases c : xB (T r) = true
    · rw [if_pos c]
      have f0 : eFr xm2 h (jhI h 110 2 (jz ((r + 1 : Nat) : Int))) := xm2_I (eFr_refl _ _) _
      obtain ⟨h', q1, q2, q3, q4⟩ := ih (r + 1) (by omega) (jhI h 110 2 (jz ((r + 1 : Nat) : Int))) (xTm_m t (xm_2 f0)) (by rw [f0.1 _ _ (by unfold xm2; omega)]; exact h3) rfl (by omega)
      have go : xSk n T r = xSk n T (r + 1) := by unfold xSk; exact xRun_go (s := r) (by omega) c
      have ge := xSk_ge (n := n) (T := T) (s := r + 1)
      refine ⟨h', q1, ?_, eFr_trans f0 q3, fun q => ?_⟩
      · rw [go]; exact q2
      · rw [go] at q; omega
    · rw [if_neg c]
      refine ⟨h, rfl, ?_, eFr_refl _ _, fun _ => rfl⟩
      unfold xSk
      rw [xRun_st (fun t => c t.2)]; exact h2
theorem sM_look_t {r : Nat} (t : xTm n T h) (h3 : h.1 110 3 = jz n) (h2 : h.1 110 2 = jz r) (hr : r ≤ n) : ∃ h', fM_look h = some (jz (xCh n T (xSk n T r)), h') ∧ h'.1 110 2 = jz (xSk n T r) ∧ eFr xm2 h h' ∧ (xSk n T r = r → h' = h) := by
  have hb := t.1
  obtain ⟨h', q1, q2, q3, q4⟩ := sM_lookl (n - r) r rfl h t h3 h2 hr
  have sl := xSk_le (T := T) hr
  have t' : xTm n T h' := xTm_m t (xm_2 q3)
  have h3' : h'.1 110 3 = jz n := by rw [q3.1 _ _ (by unfold xm2; omega)]; exact h3
  refine ⟨h', ?_, q2, q3, q4⟩
  unfold fM_look
  rw [q1, Option.bind_some, q2, h3']
  generalize xSk n T r = s at *
  unfold xCh
  by_cases c0 : s < n
  · have tk := t'.2 s c0
    have ix : (jz (s : Int)).toNatClampNeg = s := by rw [jz_ix (by omega) (by omega), Int.toNat_natCast]
    rw [if_pos (by rw [jz_lt (by omega) (by omega) (by omega) (by omega)]; omega), if_pos (by rw [jin_z (by omega) (by omega)]; omega), if_pos c0, ix, tk.2]
  · rw [if_neg (by rw [jz_lt (by omega) (by omega) (by omega) (by omega)]; omega), if_neg c0]
    rfl
theorem mR_fr {h' : jH} (R : mR n T e s h) (a : ∀ o k, o = 111 ∨ (113 ≤ o ∧ o ≤ 137) ∨ (153 ≤ o ∧ o ≤ 172) ∨ (o = 110 ∧ (k = 2 ∨ k = 3 ∨ k = 4 ∨ k = 5 ∨ k = 6)) → h'.1 o k = h.1 o k) : mR n T e s h' := by
  obtain ⟨r1, r2, r3, ⟨r, r4, r5, r6, r7⟩, r8⟩ := R
  refine ⟨xTm_fr r1 (fun k => a _ _ (by omega)), eWd_fr (fun o k hk => a _ _ (by omega)) r2, r3, ⟨r, r4, r5, r6, by rw [a _ _ (by omega)]; exact r7⟩, ?_⟩
  simp (disch := omega) only [a]
  exact r8
theorem mL_fr {h' : jH} (R : mL n T e s h) (a : ∀ o k, o = 111 ∨ (113 ≤ o ∧ o ≤ 137) ∨ (153 ≤ o ∧ o ≤ 172) ∨ (o = 110 ∧ (k = 2 ∨ k = 3 ∨ k = 4 ∨ k = 5 ∨ k = 6)) → h'.1 o k = h.1 o k) : mL n T e s h' :=
  ⟨mR_fr R.1 a, by rw [a _ _ (by omega)]; exact R.2⟩
theorem mF_fr {h' : jH} (R : mF n T f pl h) (a : ∀ o k, o = 111 ∨ (113 ≤ o ∧ o ≤ 137) ∨ (153 ≤ o ∧ o ≤ 172) ∨ (o = 110 ∧ (k = 2 ∨ k = 3 ∨ k = 5 ∨ k = 6)) → h'.1 o k = h.1 o k) : mF n T f pl h' := by
  obtain ⟨r1, r2, ⟨r, r3, r4⟩, r5⟩ := R
  refine ⟨xTm_fr r1 (fun k => a _ _ (by omega)), eWd_fr (fun o k hk => a _ _ (by omega)) r2, ⟨r, r3, by rw [a _ _ (by omega)]; exact r4⟩, ?_⟩
  simp (disch := omega) only [a]
  exact r5
theorem mR_sk (R : mR n T e s h) : xSk n T s = s := by
  obtain ⟨-, -, -, ⟨r, -, r5, -⟩, -⟩ := R
  rw [← r5]
  exact xSk_idem
theorem mR_e (R : mR n T e s h) : -1 ≤ e ∧ e ≤ s ∧ s ≤ n ∧ n ≤ 1600 := by
  obtain ⟨r1, -, r3, ⟨r, r4, -, r6, -⟩, -, -, r7, -⟩ := R
  exact ⟨r7, by omega, r3, r1.1⟩
theorem sM_look (R : mR n T e s h) : ∃ h', fM_look h = some (jz (xCh n T s), h') ∧ mL n T e s h' ∧ eFr xm2 h h' := by
  have me := mR_e R
  have sk := mR_sk R
  obtain ⟨r1, r2, r3, ⟨r, r4, r5, r6, r7⟩, r8, r9, r10, r11, r12⟩ := R
  obtain ⟨h', q1, q2, q3, -⟩ := sM_look_t r1 r8 r7 (by omega)
  rw [r5] at q1 q2
  refine ⟨h', q1, ⟨⟨xTm_m r1 (xm_2 q3), eWd_m r2 (xm_2 q3), r3, ⟨s, Nat.le_refl _, sk, by omega, q2⟩, ?_, ?_, r10, ?_, ?_⟩, q2⟩, q3⟩
  · rw [q3.1 _ _ (by unfold xm2; omega)]; exact r8
  · rw [q3.1 _ _ (by unfold xm2; omega)]; exact r9
  · rw [q3.1 _ _ (by unfold xm2; omega)]; exact r11
  · rw [q3.1 _ _ (by unfold xm2; omega)]; exact r12
theorem sM_look0 (R : mL n T e s h) : fM_look h = some (jz (xCh n T s), h) := by
  have me := mR_e R.1
  have sk := mR_sk R.1
  obtain ⟨⟨r1, r2, r3, -, r8, -⟩, R2⟩ := R
  obtain ⟨h', q1, q2, q3, q4⟩ := sM_look_t r1 r8 R2 (by omega)
  rw [q4 sk, sk] at q1
  exact q1
theorem sM_lookF (R : mF n T f pl h) : ∃ c h', fM_look h = some (c, h') ∧ mF n T f pl h' ∧ eFr xm2 h h' := by
  obtain ⟨r1, r2, ⟨r, r3, r4⟩, r5, r6⟩ := R
  obtain ⟨h', q1, q2, q3, -⟩ := sM_look_t r1 r5 r4 r3
  have sl := xSk_le (T := T) r3
  refine ⟨_, h', q1, ⟨xTm_m r1 (xm_2 q3), eWd_m r2 (xm_2 q3), ⟨_, sl, q2⟩, ?_, r6.1, r6.2.1, ?_, ?_⟩, q3⟩
  · rw [q3.1 _ _ (by unfold xm2; omega)]; exact r5
  · rw [q3.1 _ _ (by unfold xm2; omega)]; exact r6.2.2.1
  · rw [q3.1 _ _ (by unfold xm2; omega)]; exact r6.2.2.2
theorem mF_5 (R : mF n T f pl h) : ¬ h.1 110 5 = 0 := by
  obtain ⟨-, -, -, -, r5, r6, r7, -⟩ := R
  rw [r7, show (0 : Int32) = jz 0 from rfl, jz_eq (by omega) (by omega) (by omega) (by omega)]
  omega
theorem mR_5 (R : mR n T e s h) : h.1 110 5 = 0 := R.2.2.2.2.2.2.2.1
theorem sM_let {c : Nat} (hc : c < 256) : fM_isLetter (jz c) = if xL c = true then 1 else 0 := by
  unfold fM_isLetter xL
  by_cases c1 : c < 97
  · rw [if_neg (show ¬ decide (97 ≤ c ∧ c ≤ 122) = true by simp; omega)]
    simp (disch := omega) only [Bool.false_eq_true, jz_lit, jz_neg, jz_nat, jz_add, jz_sub, jz_mul, jz_lt, jz_le, jz_eq, jz_ix, jin_z, jz_div, jzw, jwz, jw_lit, jw_neg, jw_add, jw_sub, jw_mul, jw_lt, jw_le, jw_eq, jw_div, Int.toNat_natCast, if_pos, if_neg, if_true, if_false, Option.bind_some, Int.natCast_add, Int.natCast_mul, Int.cast_ofNat_Int, Int.reduceToNat, Int.reduceAdd, Int.reduceMul, Int.reduceSub, Int.reduceNeg, Nat.reduceAdd, Nat.reduceMul]
  · by_cases c2 : 122 < c
    · rw [if_neg (show ¬ decide (97 ≤ c ∧ c ≤ 122) = true by simp; omega)]
      simp (disch := omega) only [Bool.false_eq_true, jz_lit, jz_neg, jz_nat, jz_add, jz_sub, jz_mul, jz_lt, jz_le, jz_eq, jz_ix, jin_z, jz_div, jzw, jwz, jw_lit, jw_neg, jw_add, jw_sub, jw_mul, jw_lt, jw_le, jw_eq, jw_div, Int.toNat_natCast, if_pos, if_neg, if_true, if_false, Option.bind_some, Int.natCast_add, Int.natCast_mul, Int.cast_ofNat_Int, Int.reduceToNat, Int.reduceAdd, Int.reduceMul, Int.reduceSub, Int.reduceNeg, Nat.reduceAdd, Nat.reduceMul]
    · rw [if_pos (show decide (97 ≤ c ∧ c ≤ 122) = true by simp; omega)]
      simp (disch := omega) only [Bool.false_eq_true, jz_lit, jz_neg, jz_nat, jz_add, jz_sub, jz_mul, jz_lt, jz_le, jz_eq, jz_ix, jin_z, jz_div, jzw, jwz, jw_lit, jw_neg, jw_add, jw_sub, jw_mul, jw_lt, jw_le, jw_eq, jw_div, Int.toNat_natCast, if_pos, if_neg, if_true, if_false, Option.bind_some, Int.natCast_add, Int.natCast_mul, Int.cast_ofNat_Int, Int.reduceToNat, Int.reduceAdd, Int.reduceMul, Int.reduceSub, Int.reduceNeg, Nat.reduceAdd, Nat.reduceMul]
theorem sM_dig {c : Nat} (hc : c < 256) : fM_isDigit (jz c) = if xD c = true then 1 else 0 := by
  unfold fM_isDigit xD
  by_cases c1 : c < 48
  · rw [if_neg (show ¬ decide (48 ≤ c ∧ c ≤ 57) = true by simp; omega)]
    simp (disch := omega) only [Bool.false_eq_true, jz_lit, jz_neg, jz_nat, jz_add, jz_sub, jz_mul, jz_lt, jz_le, jz_eq, jz_ix, jin_z, jz_div, jzw, jwz, jw_lit, jw_neg, jw_add, jw_sub, jw_mul, jw_lt, jw_le, jw_eq, jw_div, Int.toNat_natCast, if_pos, if_neg, if_true, if_false, Option.bind_some, Int.natCast_add, Int.natCast_mul, Int.cast_ofNat_Int, Int.reduceToNat, Int.reduceAdd, Int.reduceMul, Int.reduceSub, Int.reduceNeg, Nat.reduceAdd, Nat.reduceMul]
  · by_cases c2 : 57 < c
    · rw [if_neg (show ¬ decide (48 ≤ c ∧ c ≤ 57) = true by simp; omega)]
      simp (disch := omega) only [Bool.false_eq_true, jz_lit, jz_neg, jz_nat, jz_add, jz_sub, jz_mul, jz_lt, jz_le, jz_eq, jz_ix, jin_z, jz_div, jzw, jwz, jw_lit, jw_neg, jw_add, jw_sub, jw_mul, jw_lt, jw_le, jw_eq, jw_div, Int.toNat_natCast, if_pos, if_neg, if_true, if_false, Option.bind_some, Int.natCast_add, Int.natCast_mul, Int.cast_ofNat_Int, Int.reduceToNat, Int.reduceAdd, Int.reduceMul, Int.reduceSub, Int.reduceNeg, Nat.reduceAdd, Nat.reduceMul]
    · rw [if_pos (show decide (48 ≤ c ∧ c ≤ 57) = true by simp; omega)]
      simp (disch := omega) only [Bool.false_eq_true, jz_lit, jz_neg, jz_nat, jz_add, jz_sub, jz_mul, jz_lt, jz_le, jz_eq, jz_ix, jin_z, jz_div, jzw, jwz, jw_lit, jw_neg, jw_add, jw_sub, jw_mul, jw_lt, jw_le, jw_eq, jw_div, Int.toNat_natCast, if_pos, if_neg, if_true, if_false, Option.bind_some, Int.natCast_add, Int.natCast_mul, Int.cast_ofNat_Int, Int.reduceToNat, Int.reduceAdd, Int.reduceMul, Int.reduceSub, Int.reduceNeg, Nat.reduceAdd, Nat.reduceMul]
theorem sM_letC (t : xTm n T h) : fM_isLetter (jz (xCh n T s)) = if s < n ∧ xL (T s) = true then 1 else 0 := by
  unfold xCh
  by_cases c0 : s < n
  · have := (t.2 s c0).1
    rw [if_pos c0, sM_let this]
    by_cases cl : xL (T s) = true
    · rw [if_pos cl, if_pos ⟨c0, cl⟩]
    · rw [if_neg cl, if_neg (fun t => cl t.2)]
  · rw [if_neg c0, if_neg (fun t => c0 t.1)]
    rfl
theorem sM_digC (t : xTm n T h) : fM_isDigit (jz (xCh n T s)) = if s < n ∧ xD (T s) = true then 1 else 0 := by
  unfold xCh
  by_cases c0 : s < n
  · have := (t.2 s c0).1
    rw [if_pos c0, sM_dig this]
    by_cases cl : xD (T s) = true
    · rw [if_pos cl, if_pos ⟨c0, cl⟩]
    · rw [if_neg cl, if_neg (fun t => cl t.2)]
  · rw [if_neg c0, if_neg (fun t => c0 t.1)]
    rfl
theorem sM_run (M : Nat) (t : xTm n T h) (h3 : h.1 110 3 = jz n) : ∀ m j, n - j = m → j ≤ n → jlim (fM_isHere_l35 M h) (jz j) = some (jz (xRun n T xL j)) := by
  have hb := t.1
  intro m
  induction m with
  | zero =>
    intro j hm hj
    rw [jlim_eq, xRun_st (by omega)]
    simp only [fM_isHere_l35, fM_isHere_l35_b, h3]
    rw [if_neg (by rw [jz_lt (by omega) (by omega) (by omega) (by omega)]; omega)]
  | succ m ih =>
    intro j hm hj
    have tk := t.2 j (by omega)
    have ix : (jz (j : Int)).toNatClampNeg = j := by rw [jz_ix (by omega) (by omega), Int.toNat_natCast]
    have e1 : jz (j : Int) + 1 = jz ((j + 1 : Nat) : Int) := by rw [show (1 : Int32) = jz 1 from rfl, jz_add]; rfl
    rw [jlim_eq]
    simp only [fM_isHere_l35, fM_isHere_l35_b, h3]
    rw [if_pos (by rw [jz_lt (by omega) (by omega) (by omega) (by omega)]; omega), if_pos (by rw [jin_z (by omega) (by omega)]; omega)]
    simp only [ix, tk.2, sM_let tk.1, e1]
    by_cases c : xL (T j) = true
    · rw [if_pos c, if_neg (by decide)]
      dsimp only
      rw [ih (j + 1) (by omega) (by omega), xRun_go (s := j) (by omega) c]
    · rw [if_neg c, if_pos rfl]
      dsimp only
      rw [xRun_st (fun t => c t.2)]
theorem sM_cmp {M i : Nat} (W : xMw M i) (t : xTm n T h) (wd : eWd h) (h2 : h.1 110 2 = jz s) (hl : s + (xw i).length ≤ n) : ∀ m v, v + m = (xw i).length → ((∀ j, v ≤ j → j < (xw i).length → T (s + j) = (xw i).getD j 0) → jlim (fM_isHere_l76 M h) (jz v) = some (.inr ())) ∧ (¬ (∀ j, v ≤ j → j < (xw i).length → T (s + j) = (xw i).getD j 0) → jlim (fM_isHere_l76 M h) (jz v) = some (.inl ())) := by
  have hb := t.1
  obtain ⟨W1, W2, W3⟩ := W
  have w6 := (xw_ok W1).2.1
  have wl := (xw_ok W1).2.2.2
  intro m
  induction m with
  | zero =>
    intro v hv
    have en : jlim (fM_isHere_l76 M h) (jz v) = some (.inr ()) := by
      rw [jlim_eq]
      simp only [fM_isHere_l76, fM_isHere_l76_b, W2]
      rw [jz_nat, if_neg (by rw [jz_lt (by omega) (by omega) (by omega) (by omega)]; omega)]
    exact ⟨fun _ => en, fun t => absurd (fun j h1 h2 => by omega) t⟩
  | succ m ih =>
    intro v hv
    obtain ⟨i1, i2⟩ := ih (v + 1) (by omega)
    have tk := t.2 (s + v) (by omega)
    have wk : h.1 M v = jz ((xw i).getD v 0 : Int) := wd (M, xw i) W3 v (by show v < (xw i).length; omega)
    have wb := xL_b (wl v (by omega))
    have ix : (jz (v : Int)).toNatClampNeg = v := by rw [jz_ix (by omega) (by omega), Int.toNat_natCast]
    have es : jz (s : Int) + jz (v : Int) = jz ((s + v : Nat) : Int) := by rw [jz_add]; rfl
    have ix2 : (jz ((s + v : Nat) : Int)).toNatClampNeg = s + v := by rw [jz_ix (by omega) (by omega), Int.toNat_natCast]
    have e1 : jz (v : Int) + 1 = jz ((v + 1 : Nat) : Int) := by rw [show (1 : Int32) = jz 1 from rfl, jz_add]; rfl
    have st : fM_isHere_l76 M h (jz v) = if T (s + v) = (xw i).getD v 0 then some (.inl (jz ((v + 1 : Nat) : Int))) else some (.inr (.inl ())) := by
      simp only [fM_isHere_l76, fM_isHere_l76_b, W2, h2, es]
      rw [jz_nat, if_pos (by rw [jz_lt (by omega) (by omega) (by omega) (by omega)]; omega), if_pos (by rw [jin_z (by omega) (by omega)]; omega), if_pos (by rw [jin_z (by omega) (by omega)]; omega)]
      simp only [ix, ix2, tk.2, wk, e1]
      by_cases q : T (s + v) = (xw i).getD v 0
      · rw [if_pos q, if_pos (by rw [q])]
      · rw [if_neg q, if_neg (by rw [jz_eq (by omega) (by omega) (by omega) (by omega)]; omega)]
    rw [jlim_eq, st]
    by_cases q : T (s + v) = (xw i).getD v 0
    · rw [if_pos q]
      refine ⟨fun al => i1 (fun j h1 h2 => al j (by omega) h2), fun na => i2 (fun al => na (fun j h1 h2 => ?_))⟩
      by_cases c : j = v
      · subst c; exact q
      · exact al j (by omega) h2
    · rw [if_neg q]
      exact ⟨fun al => absurd (al v (by omega) (by omega)) q, fun _ => rfl⟩
theorem sM_here0 {M i : Nat} (R : mL n T e s h) (W : xMw M i) : fM_isHere M h = some (if xHas n T e s (xw i) = true then 1 else 0, h) := by
  have me := mR_e R.1
  have l0 := sM_look0 R
  obtain ⟨⟨r1, r2, r3, -, r8, r9, -, r11, -⟩, R2⟩ := R
  have w6 := (xw_ok W.1)
  unfold fM_isHere
  rw [r11, if_pos (show jz 0 = 0 from rfl), l0, Option.bind_some]
  simp only []
  rw [sM_letC r1]
  by_cases c0 : s < n ∧ xL (T s) = true
  · rw [if_pos c0, if_neg (by decide), R2, r9]
    by_cases ce : (s : Int) = e
    · rw [if_pos (by rw [ce]), if_neg (fun y => (xHas_iff.mp y).1.2.1 ce)]
    · rw [if_neg (by rw [jz_eq (by omega) (by omega) (by omega) (by omega)]; exact ce), sM_run M r1 r8 (n - s) s rfl r3, Option.bind_some, W.2.1, jz_nat]
      have rg := xRunL_gt c0.1 c0.2
      have ed : jz (xRun n T xL s : Int) - jz (s : Int) = jz ((xRun n T xL s - s : Nat) : Int) := by rw [jz_sub]; congr 1; omega
      rw [ed]
      by_cases cl : xRun n T xL s - s = (xw i).length
      · rw [if_pos (by rw [cl])]
        obtain ⟨q1, q2⟩ := sM_cmp W r1 r2 R2 (by omega) (xw i).length 0 (by omega)
        by_cases y : xHas n T e s (xw i) = true
        · have q3 : jlim (fM_isHere_l76 M h) 0 = _ := q1 (fun j _ hj => (xHas_iff.mp y).2 j hj)
          rw [q3, Option.bind_some, if_pos y]
          rfl
        · have q3 : jlim (fM_isHere_l76 M h) 0 = _ := q2 (fun al => y (xHas_iff.mpr ⟨⟨c0.1, ce, cl⟩, fun j hj => al j (by omega) hj⟩))
          rw [q3, Option.bind_some, if_neg y]
          rfl
      · rw [if_neg (by rw [jz_eq (by omega) (by omega) (by omega) (by omega)]; omega), if_neg (fun y => cl (xHas_iff.mp y).1.2.2)]
  · rw [if_neg c0, if_pos rfl, if_neg (fun y => c0 ⟨(xHas_iff.mp y).1.1, xHas_L w6.1 w6.2.2.2 y⟩)]
theorem sM_here_eq {M : Nat} {x : Int32} {h' : jH} (h5 : h.1 110 5 = 0) (h5' : h'.1 110 5 = 0) (l : fM_look h = some (x, h')) (l' : fM_look h' = some (x, h')) : fM_isHere M h = fM_isHere M h' := by
  unfold fM_isHere
  rw [if_pos h5, if_pos h5', l, l']
theorem sM_here {M i : Nat} (R : mR n T e s h) (W : xMw M i) : ∃ h', fM_isHere M h = some (if xHas n T e s (xw i) = true then 1 else 0, h') ∧ mL n T e s h' ∧ eFr xm2 h h' := by
  obtain ⟨h', q1, q2, q3⟩ := sM_look R
  refine ⟨h', ?_, q2, q3⟩
  rw [sM_here_eq (mR_5 R) (mR_5 q2.1) q1 (sM_look0 q2)]
  exact sM_here0 q2 W
theorem sM_hereF {M : Nat} (R : mF n T f pl h) : fM_isHere M h = some (0, h) := by
  unfold fM_isHere
  rw [if_neg (mF_5 R)]
/-- behind a word or number that ended at r -/
theorem mR_next {r : Nat} (R : mL n T e s h) (h1 : s ≤ r) (h2 : r ≤ n) : mR n T r (xSk n T r) (jhI (jhI h 110 2 (jz r)) 110 4 (jz r)) := by
  obtain ⟨⟨r1, r2, r3, -, r8, r9, r10, r11, r12⟩, R2⟩ := R
  have f0 : eFr xm h (jhI (jhI h 110 2 (jz r)) 110 4 (jz r)) := xm_I4 (xm_I2 (eFr_refl _ _) _) _
  refine ⟨xTm_m r1 f0, eWd_m r2 f0, xSk_le h2, ⟨r, xSk_ge, rfl, Int.le_refl _, rfl⟩, r8, rfl, by omega, r11, r12⟩
theorem mR_sign (R : mL n T e s h) (c0 : s < n) : mR n T e (xSk n T (s + 1)) (jhI h 110 2 (jz ((s + 1 : Nat) : Int))) := by
  have me := mR_e R.1
  obtain ⟨⟨r1, r2, r3, -, r8, r9, r10, r11, r12⟩, R2⟩ := R
  have f0 : eFr xm h (jhI h 110 2 (jz ((s + 1 : Nat) : Int))) := xm_I2 (eFr_refl _ _) _
  refine ⟨xTm_m r1 f0, eWd_m r2 f0, xSk_le (by omega), ⟨s + 1, xSk_ge, rfl, by omega, rfl⟩, r8, r9, r10, r11, r12⟩
theorem sM_takes {M i : Nat} (R : mR n T e s h) (W : xMw M i) : (¬ xHas n T e s (xw i) = true → ∃ h', fM_takes M h = some (0, h') ∧ mL n T e s h' ∧ eFr xm h h') ∧ (xHas n T e s (xw i) = true → ∃ h', fM_takes M h = some (1, h') ∧ mR n T (xRun n T xL s) (xSk n T (xRun n T xL s)) h' ∧ eFr xm h h') := by
  have me := mR_e R
  obtain ⟨h1, q1, q2, q3⟩ := sM_here R W
  have w6 := (xw_ok W.1)
  constructor
  · intro hn
    refine ⟨h1, ?_, q2, xm_2 q3⟩
    unfold fM_takes
    rw [q1, if_neg hn, Option.bind_some, if_pos rfl]
  · intro hy
    obtain ⟨⟨c0, ce, cl⟩, -⟩ := xHas_iff.mp hy
    have rg := xRunL_gt c0 (xHas_L w6.1 w6.2.2.2 hy)
    have ea : jz (s : Int) + jz ((xw i).length : Int) = jz (xRun n T xL s : Int) := by
      rw [jz_add]
      congr 1
      omega
    refine ⟨_, ?_, mR_next q2 (Nat.le_of_lt rg.1) rg.2, xm_I4 (xm_I2 (xm_2 q3) _) _⟩
    unfold fM_takes
    rw [q1, if_pos hy, Option.bind_some, if_neg (show ¬ (1 : Int32) = 0 by decide), W.2.1, jz_nat]
    simp only []
    rw [q2.2, ea]
    rfl
theorem sM_takesF {M : Nat} (R : mF n T f pl h) : fM_takes M h = some (0, h) := by
  unfold fM_takes
  rw [sM_hereF R, Option.bind_some, if_pos rfl]
theorem sM_tsign {c : Nat} (R : mR n T e s h) (hc : c < 256) : (¬ (s < n ∧ T s = c) → ∃ h', fM_takesSign (jz c) h = some (0, h') ∧ mL n T e s h' ∧ eFr xm h h') ∧ (s < n ∧ T s = c → ∃ h', fM_takesSign (jz c) h = some (1, h') ∧ mR n T e (xSk n T (s + 1)) h' ∧ eFr xm h h' ∧ h'.1 110 2 = jz ((s + 1 : Nat) : Int)) := by
  have me := mR_e R
  obtain ⟨h1, q1, q2, q3⟩ := sM_look R
  have e1 : jz (s : Int) + 1 = jz ((s + 1 : Nat) : Int) := by rw [show (1 : Int32) = jz 1 from rfl, jz_add]; rfl
  have key : jz (xCh n T s) = jz (c : Int) ↔ s < n ∧ T s = c := by
    unfold xCh
    by_cases c0 : s < n
    · have := (R.1.2 s c0).1
      rw [if_pos c0, jz_eq (by omega) (by omega) (by omega) (by omega)]
      constructor
      · intro t; exact ⟨c0, by omega⟩
      · intro t; have := t.2; omega
    · rw [if_neg c0, jz_eq (by omega) (by omega) (by omega) (by omega)]
      constructor
      · intro t; omega
      · intro t; exact absurd t.1 c0
  constructor
  · intro hn
    refine ⟨h1, ?_, q2, xm_2 q3⟩
    unfold fM_takesSign
    rw [mR_5 R, if_pos rfl, q1, Option.bind_some, if_neg (fun t => hn (key.mp t))]
  · intro hy
    refine ⟨_, ?_, mR_sign q2 hy.1, xm_I2 (xm_2 q3) _, rfl⟩
    unfold fM_takesSign
    rw [mR_5 R, if_pos rfl, q1, Option.bind_some, if_pos (key.mpr hy), q2.2, e1]
theorem sM_tsignF (R : mF n T f pl h) (c : Int32) : fM_takesSign c h = some (0, h) := by
  unfold fM_takesSign
  rw [if_neg (mF_5 R)]
theorem sM_failR {p2 : Int} (R : mL n T e s h) (hf : 1 ≤ f ∧ f ≤ 5) : mF n T f p2 (fM_fail (jz f) (jz p2) h) ∧ eFr xm h (fM_fail (jz f) (jz p2) h) := by
  have me := mR_e R.1
  obtain ⟨⟨r1, r2, r3, -, r8, r9, r10, r11, r12⟩, R2⟩ := R
  unfold fM_fail
  rw [r11, if_pos (show jz 0 = 0 from rfl)]
  have f0 : eFr xm h (jhI (jhI h 110 5 (jz f)) 110 6 (jz p2)) := xm_I6 (xm_I5 (eFr_refl _ _) _) _
  exact ⟨⟨xTm_m r1 f0, eWd_m r2 f0, ⟨s, by omega, R2⟩, r8, hf.1, hf.2, rfl, rfl⟩, f0⟩
theorem sM_failF (R : mF n T f pl h) (a b : Int32) : fM_fail a b h = h := by
  unfold fM_fail
  rw [if_neg (mF_5 R)]
theorem sM_asks {M i : Nat} (R : mR n T e s h) (W : xMw M i) : (¬ xHas n T e s (xw i) = true → ∃ h', fM_asks M h = some h' ∧ mF n T 1 s h' ∧ eFr xm h h') ∧ (xHas n T e s (xw i) = true → ∃ h', fM_asks M h = some h' ∧ mR n T (xRun n T xL s) (xSk n T (xRun n T xL s)) h' ∧ eFr xm h h') := by
  obtain ⟨q1, q2⟩ := sM_takes R W
  constructor
  · intro hn
    obtain ⟨h1, p1, p2, p3⟩ := q1 hn
    have fl := sM_failR (p2 := (s : Int)) p2 (f := 1) (by omega)
    refine ⟨_, ?_, fl.1, eFr_trans p3 fl.2⟩
    unfold fM_asks
    rw [mR_5 R, if_pos rfl, p1, Option.bind_some, if_pos rfl]
    simp only []
    rw [p2.2]
    rfl
  · intro hy
    obtain ⟨h1, p1, p2, p3⟩ := q2 hy
    refine ⟨h1, ?_, p2, p3⟩
    unfold fM_asks
    rw [mR_5 R, if_pos rfl, p1, Option.bind_some, if_neg (show ¬ (1 : Int32) = 0 by decide)]
theorem sM_asksF {M : Nat} (R : mF n T f pl h) : fM_asks M h = some h := by
  unfold fM_asks
  rw [if_neg (mF_5 R)]
theorem sM_asign {c : Nat} (R : mR n T e s h) (hc : c < 256) : (¬ (s < n ∧ T s = c) → ∃ h', fM_asksSign (jz c) h = some h' ∧ mF n T 1 s h' ∧ eFr xm h h') ∧ (s < n ∧ T s = c → ∃ h', fM_asksSign (jz c) h = some h' ∧ mR n T e (xSk n T (s + 1)) h' ∧ eFr xm h h') := by
  obtain ⟨q1, q2⟩ := sM_tsign R hc
  constructor
  · intro hn
    obtain ⟨h1, p1, p2, p3⟩ := q1 hn
    have fl := sM_failR (p2 := (s : Int)) p2 (f := 1) (by omega)
    refine ⟨_, ?_, fl.1, eFr_trans p3 fl.2⟩
    unfold fM_asksSign
    rw [mR_5 R, if_pos rfl, p1, Option.bind_some, if_pos rfl]
    simp only []
    rw [p2.2]
    rfl
  · intro hy
    obtain ⟨h1, p1, p2, p3, -⟩ := q2 hy
    refine ⟨h1, ?_, p2, p3⟩
    unfold fM_asksSign
    rw [mR_5 R, if_pos rfl, p1, Option.bind_some, if_neg (show ¬ (1 : Int32) = 0 by decide)]
theorem sM_asignF (R : mF n T f pl h) (c : Int32) : fM_asksSign c h = some h := by
  unfold fM_asksSign
  rw [if_neg (mF_5 R)]
end XM
