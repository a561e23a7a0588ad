/-! numbers and names, the reference -/
/-- a name's number, as the reference holds it -/
def xNl (T : Nat → Nat) (s : Nat) : Nat → Nat
  | 0 => 0
  | k + 1 => 27 * xNl T s k + (T (s + k) - 96)
section XN
variable {n : Nat} {T : Nat → Nat} {e : Int} {s : Nat} {h : jH} {f pl : Int}
theorem xRun_mid {P : Nat → Bool} {i : Nat} (h1 : s ≤ i) (h2 : i ≤ n) (h3 : ∀ j, s ≤ j → j < i → P (T j) = true) : xRun n T P s = xRun n T P i := by
  refine xRun_uq (Nat.le_trans h1 xRun_ge) (fun j h4 h5 => ?_) xRun_end (xRun_le h2)
  by_cases c : j < i
  · exact h3 j h4 c
  · exact xRun_in (by omega) h5
theorem xNl_lt : ∀ k, (∀ i, i < k → xL (T (s + i)) = true) → xNl T s k < 27 ^ k := by
  intro k
  induction k with
  | zero => intro _; exact Nat.one_pos
  | succ k ih =>
    intro h
    have h1 := ih (fun i hi => h i (by omega))
    have h2 := xL_b (h k (by omega))
    show 27 * xNl T s k + (T (s + k) - 96) < 27 ^ (k + 1)
    rw [Nat.pow_succ]
    omega
theorem p27_6 {k : Nat} (h : k ≤ 6) : 27 ^ k ≤ 387420489 := by
  have := Nat.pow_le_pow_right (show 0 < 27 by omega) h
  omega
theorem sM_numl (a b : Int32) : ∀ m i, n - i = m → s ≤ i → i ≤ n → i - s ≤ 4 → (∀ j, s ≤ j → j < i → xD (T j) = true) → ∀ h, xTm n T h → h.1 110 3 = jz n → h.1 110 2 = jz i → (xRun n T xD s - s ≤ 4 → ∃ h', jlim (fM_number_l49 a b (jz s)) (jz (xNm T s (i - s) : Int), h) = some (.inr (jz (xNv n T s : Int), h')) ∧ h'.1 110 2 = jz (xRun n T xD s : Int) ∧ eFr xm2 h h') ∧ (4 < xRun n T xD s - s → ∃ h', jlim (fM_number_l49 a b (jz s)) (jz (xNm T s (i - s) : Int), h) = some (.inl h') ∧ h'.1 110 2 = jz ((s + 4 : Nat) : Int) ∧ eFr xm2 h h') := by
  intro m
  induction m with
  | zero =>
    intro i hm hs hn h4 hd h t h3 h2
    have hb := t.1
    have rm := xRun_mid (P := xD) hs hn hd
    rw [xRun_st (s := i) (by omega)] at rm
    refine ⟨fun _ => ⟨h, ?_, by rw [rm]; exact h2, eFr_refl _ _⟩, fun q => by omega⟩
    rw [jlim_eq]
    simp only [fM_number_l49, fM_number_l49_b, h2, h3]
    rw [if_neg (by rw [jz_lt (by omega) (by omega) (by omega) (by omega)]; omega)]
    unfold xNv
    rw [rm]
  | succ m ih =>
    intro i hm hs hn h4 hd h t h3 h2
    have hb := t.1
    have tk := t.2 i (by omega)
    have ix : (jz (i : Int)).toNatClampNeg = i := by rw [jz_ix (by omega) (by omega), Int.toNat_natCast]
    have ji : jin (jz (i : Int)) 1600 := by rw [jin_z (by omega) (by omega)]; omega
    have ed : jz (i : Int) - jz (s : Int) = jz ((i - s : Nat) : Int) := by rw [jz_sub]; congr 1; omega
    have e1 : jz (i : Int) + 1 = jz ((i + 1 : Nat) : Int) := by rw [show (1 : Int32) = jz 1 from rfl, jz_add]; rfl
    have rm := xRun_mid (P := xD) hs hn hd
    by_cases c : xD (T i) = true
    · have cb := xD_b c
      have rg : xRun n T xD i = xRun n T xD (i + 1) := xRun_go (s := i) (by omega) c
      have rge := xRun_ge (n := n) (T := T) (P := xD) (s := i + 1)
      have nv := xNm_9999 (T := T) (s := s) (k := i - s) (fun j hj => hd _ (by omega) (by omega))
      have st : fM_number_l49 a b (jz s) (jz (xNm T s (i - s) : Int), h) = if i - s = 4 then some (.inr (.inl h)) else some (.inl (((10 * jz (xNm T s (i - s) : Int)) + jz (T i : Int)) - 48, jhI h 110 2 (jz ((i + 1 : Nat) : Int)))) := by
        simp only [fM_number_l49, fM_number_l49_b, h2, h3]
        rw [if_pos (by rw [jz_lt (by omega) (by omega) (by omega) (by omega)]; omega), if_pos ji]
        simp only [ix, tk.2, sM_dig tk.1, e1, ed, if_pos ji]
        rw [if_pos c, if_neg (by decide)]
        by_cases q : i - s = 4
        · rw [if_pos q, if_pos (by rw [q]; rfl)]
        · rw [if_neg q, if_neg (by rw [show (4 : Int32) = jz 4 from rfl, jz_eq (by omega) (by omega) (by omega) (by omega)]; omega)]
      rw [jlim_eq, st]
      by_cases q : i - s = 4
      · rw [if_pos q]
        exact ⟨fun u => by omega, fun _ => ⟨h, rfl, by rw [h2, show i = s + 4 by omega], eFr_refl _ _⟩⟩
      · rw [if_neg q]
        have en : ((10 * jz (xNm T s (i - s) : Int)) + jz (T i : Int)) - 48 = jz (xNm T s (i + 1 - s) : Int) := by
          rw [show (10 : Int32) = jz 10 from rfl, jz_mul, jz_add, show (48 : Int32) = jz 48 from rfl, jz_sub]
          congr 1
          rw [show i + 1 - s = (i - s) + 1 by omega]
          show _ = ((if i - s < 4 then 10 * xNm T s (i - s) + (T (s + (i - s)) - 48) else xNm T s (i - s) : Nat) : Int)
          rw [if_pos (by omega), show s + (i - s) = i by omega]
          omega
        have f0 : eFr xm2 h (jhI h 110 2 (jz ((i + 1 : Nat) : Int))) := xm2_I (eFr_refl _ _) _
        obtain ⟨p1, p2⟩ := ih (i + 1) (by omega) (by omega) (by omega) (by omega) (fun j h5 h6 => by
          by_cases z : j = i
          · subst z; exact c
          · exact hd j h5 (by omega)) (jhI h 110 2 (jz ((i + 1 : Nat) : Int))) (xTm_m t (xm_2 f0)) (by rw [f0.1 _ _ (by unfold xm2; omega)]; exact h3) rfl
        dsimp only
        rw [en]
        refine ⟨fun u => ?_, fun u => ?_⟩
        · obtain ⟨h', r1, r2, r3⟩ := p1 u
          exact ⟨h', r1, r2, eFr_trans f0 r3⟩
        · obtain ⟨h', r1, r2, r3⟩ := p2 u
          exact ⟨h', r1, r2, eFr_trans f0 r3⟩
    · rw [xRun_st (s := i) (fun t => c t.2)] at rm
      have st : fM_number_l49 a b (jz s) (jz (xNm T s (i - s) : Int), h) = some (.inr (.inr (jz (xNm T s (i - s) : Int), h))) := by
        simp only [fM_number_l49, fM_number_l49_b, h2, h3]
        rw [if_pos (by rw [jz_lt (by omega) (by omega) (by omega) (by omega)]; omega), if_pos ji]
        simp only [ix, tk.2, sM_dig tk.1]
        rw [if_neg c, if_pos rfl]
      rw [jlim_eq, st]
      refine ⟨fun _ => ⟨h, ?_, by rw [rm]; exact h2, eFr_refl _ _⟩, fun q => by omega⟩
      unfold xNv
      rw [rm]
theorem sM_number {m : Nat} (R : mR n T e s h) (hm : m ≤ 9999) : (¬ xNum n T e s → ∃ h', fM_number 0 (jz m) h = some (0, h') ∧ mF n T 1 s h' ∧ eFr xm h h') ∧ (xNum n T e s → 4 < xRun n T xD s - s → ∃ h', fM_number 0 (jz m) h = some (0, h') ∧ mF n T 1 ((s + 4 : Nat) : Int) h' ∧ eFr xm h h') ∧ (xNum n T e s → ¬ 4 < xRun n T xD s - s → m < xNv n T s → ∃ v h', fM_number 0 (jz m) h = some (v, h') ∧ mF n T 2 s h' ∧ eFr xm h h') ∧ (xNum n T e s → ¬ 4 < xRun n T xD s - s → ¬ m < xNv n T s → ∃ h', fM_number 0 (jz m) h = some (jz (xNv n T s : Int), h') ∧ mR n T (xRun n T xD s) (xSk n T (xRun n T xD s)) h' ∧ eFr xm h h') := by
  have me := mR_e R
  obtain ⟨h1, q1, q2, q3⟩ := sM_look R
  have t1 := q2.1.1
  have h3 := q2.1.2.2.2.2.1
  have h4 := q2.1.2.2.2.2.2.1
  have dg := sM_digC (s := s) t1
  have nv : xNum n T e s → xNv n T s ≤ 9999 ∧ s < xRun n T xD s ∧ xRun n T xD s ≤ n := by
    rintro ⟨c0, cd, ce⟩
    refine ⟨xNm_9999 (fun i hi => xRun_in (n := n) (s := s) (by omega) (by omega)), ?_⟩
    have rg : xRun n T xD s = xRun n T xD (s + 1) := xRun_go c0 cd
    have := xRun_ge (n := n) (T := T) (P := xD) (s := s + 1)
    have := xRun_le (n := n) (T := T) (P := xD) (s := s + 1) (by omega)
    omega
  have op : xNum n T e s → fM_number 0 (jz m) h = Option.bind (jlim (fM_number_l49 0 (jz m) (jz s)) (jz (xNm T s (s - s) : Int), h1)) (fun x13 => Sum.elim (fun y13 : jH => some (0, fM_fail 1 (y13.1 110 2) y13)) (fun y13 : Int32 × jH => if fM_isIn y13.1.toInt64 (0 : Int32).toInt64 (jz m).toInt64 = 0 then some (y13.1, fM_fail 2 (jz s) (jhI y13.2 110 4 (y13.2.1 110 2))) else some (y13.1, jhI y13.2 110 4 (y13.2.1 110 2))) x13) := by
    rintro ⟨c0, cd, ce⟩
    unfold fM_number
    rw [mR_5 R, if_pos rfl, q1, Option.bind_some, dg, if_pos (show s < n ∧ xD (T s) = true from ⟨c0, cd⟩), if_neg (show ¬ (1 : Int32) = 0 by decide)]
    dsimp only
    rw [q2.2, h4, if_neg (by rw [jz_eq (by omega) (by omega) (by omega) (by omega)]; exact ce), Nat.sub_self]
    rfl
  have sub : ∀ y : jH, eFr xm2 h1 y → ∀ r : Nat, s ≤ r → r ≤ n → y.1 110 2 = jz r → mR n T r (xSk n T r) (jhI y 110 4 (jz r)) := by
    intro y fy r hr1 hr2 hy
    obtain ⟨⟨r1, r2, r3, -, r8, r9, r10, r11, r12⟩, R2⟩ := q2
    have f0 : eFr xm h1 (jhI y 110 4 (jz r)) := xm_I4 (xm_2 fy) _
    refine ⟨xTm_m r1 f0, eWd_m r2 f0, xSk_le hr2, ⟨r, xSk_ge, rfl, Int.le_refl _, ?_⟩, ?_, rfl, by omega, ?_, ?_⟩
    · rw [jhI_1, if_neg (by omega)]; exact hy
    · rw [jhI_1, if_neg (by omega), fy.1 _ _ (by unfold xm2; omega)]; exact r8
    · rw [jhI_1, if_neg (by omega), fy.1 _ _ (by unfold xm2; omega)]; exact r11
    · rw [jhI_1, if_neg (by omega), fy.1 _ _ (by unfold xm2; omega)]; exact r12
  refine ⟨fun hn => ?_, fun hy h5 => ?_, fun hy h5 hv => ?_, fun hy h5 hv => ?_⟩
  · have fl := sM_failR (p2 := (s : Int)) q2 (f := 1) (by omega)
    refine ⟨_, ?_, fl.1, eFr_trans (xm_2 q3) fl.2⟩
    unfold fM_number fM_number_j30
    rw [mR_5 R, if_pos rfl, q1, Option.bind_some, dg]
    dsimp only
    by_cases c : s < n ∧ xD (T s) = true
    · rw [if_pos c, if_neg (by decide), q2.2, h4]
      by_cases ce : (s : Int) = e
      · rw [if_pos (by rw [ce])]
        rfl
      · exact absurd ⟨c.1, c.2, ce⟩ hn
    · rw [if_neg c, if_pos rfl, q2.2]
      rfl
  · obtain ⟨v1, v2, v3⟩ := nv hy
    obtain ⟨y, p1, p2, p3⟩ := (sM_numl 0 (jz m) (n - s) s rfl (Nat.le_refl _) (by omega) (by omega) (fun j h1 h2 => by omega) h1 t1 h3 q2.2).2 h5
    have ym : xTm n T y := xTm_m t1 (xm_2 p3)
    have y5 : y.1 110 5 = jz 0 := by rw [p3.1 _ _ (by unfold xm2; omega)]; exact q2.1.2.2.2.2.2.2.2.1
    have f0 : eFr xm h1 (jhI (jhI y 110 5 (jz 1)) 110 6 (jz ((s + 4 : Nat) : Int))) := xm_I6 (xm_I5 (xm_2 p3) _) _
    refine ⟨_, ?_, ⟨xTm_m t1 f0, eWd_m q2.1.2.1 f0, ⟨s + 4, by omega, ?_⟩, ?_, by omega, by omega, rfl, rfl⟩, eFr_trans (xm_2 q3) f0⟩
    · rw [op hy, p1, Option.bind_some]
      dsimp only [Sum.elim_inl]
      unfold fM_fail
      rw [y5, if_pos (show jz 0 = 0 from rfl), p2]
      rfl
    · rw [jhI_1, if_neg (by omega), jhI_1, if_neg (by omega)]; exact p2
    · rw [jhI_1, if_neg (by omega), jhI_1, if_neg (by omega), p3.1 _ _ (by unfold xm2; omega)]; exact h3
  · obtain ⟨v1, v2, v3⟩ := nv hy
    obtain ⟨y, p1, p2, p3⟩ := (sM_numl 0 (jz m) (n - s) s rfl (Nat.le_refl _) (by omega) (by omega) (fun j h1 h2 => by omega) h1 t1 h3 q2.2).1 (by omega)
    have y5 : (jhI y 110 4 (jz (xRun n T xD s : Int))).1 110 5 = jz 0 := by rw [jhI_1, if_neg (by omega), p3.1 _ _ (by unfold xm2; omega)]; exact q2.1.2.2.2.2.2.2.2.1
    have f0 : eFr xm h1 (jhI (jhI (jhI y 110 4 (jz (xRun n T xD s : Int))) 110 5 (jz 2)) 110 6 (jz s)) := xm_I6 (xm_I5 (xm_I4 (xm_2 p3) _) _) _
    refine ⟨jz (xNv n T s : Int), _, ?_, ⟨xTm_m t1 f0, eWd_m q2.1.2.1 f0, ⟨xRun n T xD s, v3, ?_⟩, ?_, by omega, by omega, rfl, rfl⟩, eFr_trans (xm_2 q3) f0⟩
    · rw [op hy, p1, Option.bind_some]
      dsimp only [Sum.elim_inr]
      rw [p2, if_pos (by simp (disch := omega) only [Bool.false_eq_true, jz_lit, jz_neg, jz_nat, jz_add, jz_sub, jz_mul, jz_lt, jz_le, jz_eq, jz_ix, jin_z, jz_div, jzw, jwz, jw_lit, jw_neg, jw_add, jw_sub, jw_mul, jw_lt, jw_le, jw_eq, jw_div, Int.toNat_natCast, if_pos, if_neg, if_true, if_false, Option.bind_some, Int.natCast_add, Int.natCast_mul, Int.cast_ofNat_Int, Int.reduceToNat, Int.reduceAdd, Int.reduceMul, Int.reduceSub, Int.reduceNeg, Nat.reduceAdd, Nat.reduceMul, sM_isIn])]
      unfold fM_fail
      rw [y5, if_pos (show jz 0 = 0 from rfl)]
      rfl
    · rw [jhI_1, if_neg (by omega), jhI_1, if_neg (by omega), jhI_1, if_neg (by omega)]; exact p2
    · rw [jhI_1, if_neg (by omega), jhI_1, if_neg (by omega), jhI_1, if_neg (by omega), p3.1 _ _ (by unfold xm2; omega)]; exact h3
  · obtain ⟨v1, v2, v3⟩ := nv hy
    obtain ⟨y, p1, p2, p3⟩ := (sM_numl 0 (jz m) (n - s) s rfl (Nat.le_refl _) (by omega) (by omega) (fun j h1 h2 => by omega) h1 t1 h3 q2.2).1 (by omega)
    refine ⟨_, ?_, sub y p3 (xRun n T xD s) (by omega) v3 p2, eFr_trans (xm_2 q3) (xm_I4 (xm_2 p3) _)⟩
    rw [op hy, p1, Option.bind_some]
    dsimp only [Sum.elim_inr]
    rw [p2, if_neg (by simp (disch := omega) only [Bool.false_eq_true, jz_lit, jz_neg, jz_nat, jz_add, jz_sub, jz_mul, jz_lt, jz_le, jz_eq, jz_ix, jin_z, jz_div, jzw, jwz, jw_lit, jw_neg, jw_add, jw_sub, jw_mul, jw_lt, jw_le, jw_eq, jw_div, Int.toNat_natCast, if_pos, if_neg, if_true, if_false, Option.bind_some, Int.natCast_add, Int.natCast_mul, Int.cast_ofNat_Int, Int.reduceToNat, Int.reduceAdd, Int.reduceMul, Int.reduceSub, Int.reduceNeg, Nat.reduceAdd, Nat.reduceMul, sM_isIn]; decide)]
theorem sM_numberF (R : mF n T f pl h) (a b : Int32) : fM_number a b h = some (0, h) := by
  unfold fM_number
  rw [if_neg (mF_5 R)]
theorem xown_p294 (h : jH) : fM_isOwnHere_j294 h = some (1, h) := by
  unfold fM_isOwnHere_j294 fM_isOwnHere_j299
  rw [if_neg (show ¬ (1 : Int32) = 0 by decide)]
theorem xown_p218 (h : jH) : fM_isOwnHere_j218 h = some (1, h) := by
  unfold fM_isOwnHere_j218 fM_isOwnHere_j223
  rw [if_neg (show ¬ (1 : Int32) = 0 by decide)]
  exact xown_p294 h
theorem xown_p142 (h : jH) : fM_isOwnHere_j142 h = some (1, h) := by
  unfold fM_isOwnHere_j142 fM_isOwnHere_j147
  rw [if_neg (show ¬ (1 : Int32) = 0 by decide)]
  exact xown_p218 h
theorem xown_p66 (h : jH) : fM_isOwnHere_j66 h = some (1, h) := by
  unfold fM_isOwnHere_j66 fM_isOwnHere_j71
  rw [if_neg (show ¬ (1 : Int32) = 0 by decide)]
  exact xown_p142 h
theorem xown_of {i : Nat} (hi : i < 25) (y : xHas n T e s (xw i) = true) : xOwn n T e s = true := by
  unfold xOwn
  exact List.any_eq_true.mpr ⟨i, List.mem_range.mpr hi, y⟩
theorem xMw_own : (List.range 25).all (fun i => decide ((jsh (113 + i)).2 = (xw i).length ∧ (113 + i, xw i) ∈ jwtab)) = true := by decide +kernel
theorem xMw_o {i : Nat} (hi : i < 25) : xMw (113 + i) i := by
  have := of_decide_eq_true (List.all_eq_true.mp xMw_own i (List.mem_range.mpr hi))
  exact ⟨by omega, this.1, this.2⟩
theorem sM_own (R : mL n T e s h) : fM_isOwnHere h = some (if xOwn n T e s = true then 1 else 0, h) := by
  unfold fM_isOwnHere
  rw [show fM_isHere 113 h = _ from sM_here0 R (xMw_o (i := 0) (by omega)), Option.bind_some]
  by_cases c0 : xHas n T e s (xw 0) = true
  · rw [if_pos c0, if_pos (xown_of (by omega) c0), if_neg (show ¬ (1 : Int32) = 0 by decide)]
    exact xown_p66 h
  rw [if_neg c0, if_pos rfl]
  dsimp only
  rw [show fM_isHere 114 h = _ from sM_here0 R (xMw_o (i := 1) (by omega)), Option.bind_some]
  by_cases c1 : xHas n T e s (xw 1) = true
  · rw [if_pos c1, if_pos (xown_of (by omega) c1), if_neg (show ¬ (1 : Int32) = 0 by decide)]
    exact xown_p66 h
  rw [if_neg c1, if_pos rfl]
  dsimp only
  rw [show fM_isHere 115 h = _ from sM_here0 R (xMw_o (i := 2) (by omega)), Option.bind_some]
  by_cases c2 : xHas n T e s (xw 2) = true
  · rw [if_pos c2, if_pos (xown_of (by omega) c2), if_neg (show ¬ (1 : Int32) = 0 by decide)]
    exact xown_p66 h
  rw [if_neg c2, if_pos rfl]
  dsimp only
  rw [show fM_isHere 116 h = _ from sM_here0 R (xMw_o (i := 3) (by omega)), Option.bind_some]
  by_cases c3 : xHas n T e s (xw 3) = true
  · rw [if_pos c3, if_pos (xown_of (by omega) c3), if_neg (show ¬ (1 : Int32) = 0 by decide)]
    exact xown_p66 h
  rw [if_neg c3, if_pos rfl]
  dsimp only
  rw [show fM_isHere 117 h = _ from sM_here0 R (xMw_o (i := 4) (by omega)), Option.bind_some]
  by_cases c4 : xHas n T e s (xw 4) = true
  · rw [if_pos c4, if_pos (xown_of (by omega) c4), if_neg (show ¬ (1 : Int32) = 0 by decide)]
    exact xown_p66 h
  rw [if_neg c4, if_pos rfl]
  dsimp only
  rw [show fM_isHere 118 h = _ from sM_here0 R (xMw_o (i := 5) (by omega)), Option.bind_some]
  by_cases c5 : xHas n T e s (xw 5) = true
  · rw [if_pos c5, if_pos (xown_of (by omega) c5), if_neg (show ¬ (1 : Int32) = 0 by decide)]
    exact xown_p66 h
  rw [if_neg c5, if_pos rfl]
  dsimp only
  unfold fM_isOwnHere_j71
  rw [if_pos rfl]
  rw [show fM_isHere 119 h = _ from sM_here0 R (xMw_o (i := 6) (by omega)), Option.bind_some]
  by_cases c6 : xHas n T e s (xw 6) = true
  · rw [if_pos c6, if_pos (xown_of (by omega) c6), if_neg (show ¬ (1 : Int32) = 0 by decide)]
    exact xown_p142 h
  rw [if_neg c6, if_pos rfl]
  dsimp only
  rw [show fM_isHere 120 h = _ from sM_here0 R (xMw_o (i := 7) (by omega)), Option.bind_some]
  by_cases c7 : xHas n T e s (xw 7) = true
  · rw [if_pos c7, if_pos (xown_of (by omega) c7), if_neg (show ¬ (1 : Int32) = 0 by decide)]
    exact xown_p142 h
  rw [if_neg c7, if_pos rfl]
  dsimp only
  rw [show fM_isHere 121 h = _ from sM_here0 R (xMw_o (i := 8) (by omega)), Option.bind_some]
  by_cases c8 : xHas n T e s (xw 8) = true
  · rw [if_pos c8, if_pos (xown_of (by omega) c8), if_neg (show ¬ (1 : Int32) = 0 by decide)]
    exact xown_p142 h
  rw [if_neg c8, if_pos rfl]
  dsimp only
  rw [show fM_isHere 122 h = _ from sM_here0 R (xMw_o (i := 9) (by omega)), Option.bind_some]
  by_cases c9 : xHas n T e s (xw 9) = true
  · rw [if_pos c9, if_pos (xown_of (by omega) c9), if_neg (show ¬ (1 : Int32) = 0 by decide)]
    exact xown_p142 h
  rw [if_neg c9, if_pos rfl]
  dsimp only
  rw [show fM_isHere 123 h = _ from sM_here0 R (xMw_o (i := 10) (by omega)), Option.bind_some]
  by_cases c10 : xHas n T e s (xw 10) = true
  · rw [if_pos c10, if_pos (xown_of (by omega) c10), if_neg (show ¬ (1 : Int32) = 0 by decide)]
    exact xown_p142 h
  rw [if_neg c10, if_pos rfl]
  dsimp only
  rw [show fM_isHere 124 h = _ from sM_here0 R (xMw_o (i := 11) (by omega)), Option.bind_some]
  by_cases c11 : xHas n T e s (xw 11) = true
  · rw [if_pos c11, if_pos (xown_of (by omega) c11), if_neg (show ¬ (1 : Int32) = 0 by decide)]
    exact xown_p142 h
  rw [if_neg c11, if_pos rfl]
  dsimp only
  unfold fM_isOwnHere_j147
  rw [if_pos rfl]
  rw [show fM_isHere 125 h = _ from sM_here0 R (xMw_o (i := 12) (by omega)), Option.bind_some]
  by_cases c12 : xHas n T e s (xw 12) = true
  · rw [if_pos c12, if_pos (xown_of (by omega) c12), if_neg (show ¬ (1 : Int32) = 0 by decide)]
    exact xown_p218 h
  rw [if_neg c12, if_pos rfl]
  dsimp only
  rw [show fM_isHere 126 h = _ from sM_here0 R (xMw_o (i := 13) (by omega)), Option.bind_some]
  by_cases c13 : xHas n T e s (xw 13) = true
  · rw [if_pos c13, if_pos (xown_of (by omega) c13), if_neg (show ¬ (1 : Int32) = 0 by decide)]
    exact xown_p218 h
  rw [if_neg c13, if_pos rfl]
  dsimp only
  rw [show fM_isHere 127 h = _ from sM_here0 R (xMw_o (i := 14) (by omega)), Option.bind_some]
  by_cases c14 : xHas n T e s (xw 14) = true
  · rw [if_pos c14, if_pos (xown_of (by omega) c14), if_neg (show ¬ (1 : Int32) = 0 by decide)]
    exact xown_p218 h
  rw [if_neg c14, if_pos rfl]
  dsimp only
  rw [show fM_isHere 128 h = _ from sM_here0 R (xMw_o (i := 15) (by omega)), Option.bind_some]
  by_cases c15 : xHas n T e s (xw 15) = true
  · rw [if_pos c15, if_pos (xown_of (by omega) c15), if_neg (show ¬ (1 : Int32) = 0 by decide)]
    exact xown_p218 h
  rw [if_neg c15, if_pos rfl]
  dsimp only
  rw [show fM_isHere 129 h = _ from sM_here0 R (xMw_o (i := 16) (by omega)), Option.bind_some]
  by_cases c16 : xHas n T e s (xw 16) = true
  · rw [if_pos c16, if_pos (xown_of (by omega) c16), if_neg (show ¬ (1 : Int32) = 0 by decide)]
    exact xown_p218 h
  rw [if_neg c16, if_pos rfl]
  dsimp only
  rw [show fM_isHere 130 h = _ from sM_here0 R (xMw_o (i := 17) (by omega)), Option.bind_some]
  by_cases c17 : xHas n T e s (xw 17) = true
  · rw [if_pos c17, if_pos (xown_of (by omega) c17), if_neg (show ¬ (1 : Int32) = 0 by decide)]
    exact xown_p218 h
  rw [if_neg c17, if_pos rfl]
  dsimp only
  unfold fM_isOwnHere_j223
  rw [if_pos rfl]
  rw [show fM_isHere 131 h = _ from sM_here0 R (xMw_o (i := 18) (by omega)), Option.bind_some]
  by_cases c18 : xHas n T e s (xw 18) = true
  · rw [if_pos c18, if_pos (xown_of (by omega) c18), if_neg (show ¬ (1 : Int32) = 0 by decide)]
    exact xown_p294 h
  rw [if_neg c18, if_pos rfl]
  dsimp only
  rw [show fM_isHere 132 h = _ from sM_here0 R (xMw_o (i := 19) (by omega)), Option.bind_some]
  by_cases c19 : xHas n T e s (xw 19) = true
  · rw [if_pos c19, if_pos (xown_of (by omega) c19), if_neg (show ¬ (1 : Int32) = 0 by decide)]
    exact xown_p294 h
  rw [if_neg c19, if_pos rfl]
  dsimp only
  rw [show fM_isHere 133 h = _ from sM_here0 R (xMw_o (i := 20) (by omega)), Option.bind_some]
  by_cases c20 : xHas n T e s (xw 20) = true
  · rw [if_pos c20, if_pos (xown_of (by omega) c20), if_neg (show ¬ (1 : Int32) = 0 by decide)]
    exact xown_p294 h
  rw [if_neg c20, if_pos rfl]
  dsimp only
  rw [show fM_isHere 134 h = _ from sM_here0 R (xMw_o (i := 21) (by omega)), Option.bind_some]
  by_cases c21 : xHas n T e s (xw 21) = true
  · rw [if_pos c21, if_pos (xown_of (by omega) c21), if_neg (show ¬ (1 : Int32) = 0 by decide)]
    exact xown_p294 h
  rw [if_neg c21, if_pos rfl]
  dsimp only
  rw [show fM_isHere 135 h = _ from sM_here0 R (xMw_o (i := 22) (by omega)), Option.bind_some]
  by_cases c22 : xHas n T e s (xw 22) = true
  · rw [if_pos c22, if_pos (xown_of (by omega) c22), if_neg (show ¬ (1 : Int32) = 0 by decide)]
    exact xown_p294 h
  rw [if_neg c22, if_pos rfl]
  dsimp only
  rw [show fM_isHere 136 h = _ from sM_here0 R (xMw_o (i := 23) (by omega)), Option.bind_some]
  by_cases c23 : xHas n T e s (xw 23) = true
  · rw [if_pos c23, if_pos (xown_of (by omega) c23), if_neg (show ¬ (1 : Int32) = 0 by decide)]
    exact xown_p294 h
  rw [if_neg c23, if_pos rfl]
  dsimp only
  unfold fM_isOwnHere_j299
  rw [if_pos rfl]
  rw [show fM_isHere 137 h = _ from sM_here0 R (xMw_o (i := 24) (by omega)), Option.bind_some]
  by_cases c24 : xHas n T e s (xw 24) = true
  · rw [if_pos c24, if_pos (xown_of (by omega) c24), if_neg (show ¬ (1 : Int32) = 0 by decide)]
  rw [if_neg c24, if_pos rfl]
  dsimp only
  have : ¬ xOwn n T e s = true := by
    unfold xOwn
    rw [List.any_eq_true]
    rintro ⟨i, i1, i2⟩
    have hi := List.mem_range.mp i1
    have : i = 0 ∨ i = 1 ∨ i = 2 ∨ i = 3 ∨ i = 4 ∨ i = 5 ∨ i = 6 ∨ i = 7 ∨ i = 8 ∨ i = 9 ∨ i = 10 ∨ i = 11 ∨ i = 12 ∨ i = 13 ∨ i = 14 ∨ i = 15 ∨ i = 16 ∨ i = 17 ∨ i = 18 ∨ i = 19 ∨ i = 20 ∨ i = 21 ∨ i = 22 ∨ i = 23 ∨ i = 24 := by omega
    rcases this with rfl | rfl | rfl | rfl | rfl | rfl | rfl | rfl | rfl | rfl | rfl | rfl | rfl | rfl | rfl | rfl | rfl | rfl | rfl | rfl | rfl | rfl | rfl | rfl | rfl
    · exact c0 i2
    · exact c1 i2
    · exact c2 i2
    · exact c3 i2
    · exact c4 i2
    · exact c5 i2
    · exact c6 i2
    · exact c7 i2
    · exact c8 i2
    · exact c9 i2
    · exact c10 i2
    · exact c11 i2
    · exact c12 i2
    · exact c13 i2
    · exact c14 i2
    · exact c15 i2
    · exact c16 i2
    · exact c17 i2
    · exact c18 i2
    · exact c19 i2
    · exact c20 i2
    · exact c21 i2
    · exact c22 i2
    · exact c23 i2
    · exact c24 i2
  rw [if_neg this]
theorem sM_namel : ∀ m i, n - i = m → s ≤ i → i ≤ n → i - s ≤ 6 → (∀ j, s ≤ j → j < i → xL (T j) = true) → ∀ h, xTm n T h → h.1 110 3 = jz n → h.1 110 2 = jz i → h.1 110 35 = jz s → (xRun n T xL s - s ≤ 6 → ∃ h', jlim fM_name_l58 (jw (xNl T s (i - s) : Int), h) = some (.inr (jw (xNl T s (xRun n T xL s - s) : Int), h')) ∧ h'.1 110 2 = jz (xRun n T xL s : Int) ∧ eFr xm2 h h') ∧ (6 < xRun n T xL s - s → ∃ h', jlim fM_name_l58 (jw (xNl T s (i - s) : Int), h) = some (.inl h') ∧ h'.1 110 2 = jz ((s + 6 : Nat) : Int) ∧ eFr xm2 h h') := by
  intro m
  induction m with
  | zero =>
    intro i hm hs hn h4 hd h t h3 h2 h35
    have hb := t.1
    have rm := xRun_mid (P := xL) hs hn hd
    rw [xRun_st (s := i) (by omega)] at rm
    refine ⟨fun _ => ⟨h, ?_, by rw [rm]; exact h2, eFr_refl _ _⟩, fun q => by omega⟩
    rw [jlim_eq]
    simp only [fM_name_l58, fM_name_l58_b, h2, h3]
    rw [if_neg (by rw [jz_lt (by omega) (by omega) (by omega) (by omega)]; omega)]
    rw [rm]
  | succ m ih =>
    intro i hm hs hn h4 hd h t h3 h2 h35
    have hb := t.1
    have tk := t.2 i (by omega)
    have ix : (jz (i : Int)).toNatClampNeg = i := by rw [jz_ix (by omega) (by omega), Int.toNat_natCast]
    have ji : jin (jz (i : Int)) 1600 := by rw [jin_z (by omega) (by omega)]; omega
    have ed : jz (i : Int) - jz (s : Int) = jz ((i - s : Nat) : Int) := by rw [jz_sub]; congr 1; omega
    have e1 : jz (i : Int) + 1 = jz ((i + 1 : Nat) : Int) := by rw [show (1 : Int32) = jz 1 from rfl, jz_add]; rfl
    have rm := xRun_mid (P := xL) hs hn hd
    by_cases c : xL (T i) = true
    · have cb := xL_b c
      have rg : xRun n T xL i = xRun n T xL (i + 1) := xRun_go (s := i) (by omega) c
      have rge := xRun_ge (n := n) (T := T) (P := xL) (s := i + 1)
      have nv := xNl_lt (T := T) (s := s) (i - s) (fun j hj => hd _ (by omega) (by omega))
      have st : fM_name_l58 (jw (xNl T s (i - s) : Int), h) = if i - s = 6 then some (.inr (.inl h)) else some (.inl ((((27 * jw (xNl T s (i - s) : Int)) + (jz (T i : Int)).toInt64) - 97) + 1, jhI h 110 2 (jz ((i + 1 : Nat) : Int)))) := by
        simp only [fM_name_l58, fM_name_l58_b, h2, h3, h35]
        rw [if_pos (by rw [jz_lt (by omega) (by omega) (by omega) (by omega)]; omega), if_pos ji]
        simp only [ix, tk.2, sM_let tk.1, e1, ed, if_pos ji]
        rw [if_pos c, if_neg (by decide)]
        by_cases q : i - s = 6
        · rw [if_pos q, if_pos (by rw [q]; rfl)]
        · rw [if_neg q, if_neg (by rw [show (6 : Int32) = jz 6 from rfl, jz_eq (by omega) (by omega) (by omega) (by omega)]; omega)]
      rw [jlim_eq, st]
      by_cases q : i - s = 6
      · rw [if_pos q]
        exact ⟨fun u => by omega, fun _ => ⟨h, rfl, by rw [h2, show i = s + 6 by omega], eFr_refl _ _⟩⟩
      · rw [if_neg q]
        have en : (((27 * jw (xNl T s (i - s) : Int)) + (jz (T i : Int)).toInt64) - 97) + 1 = jw (xNl T s (i + 1 - s) : Int) := by
          rw [jzw (by omega) (by omega), show (27 : Int64) = jw 27 from rfl, jw_mul, jw_add, show (97 : Int64) = jw 97 from rfl, jw_sub, show (1 : Int64) = jw 1 from rfl, jw_add]
          congr 1
          rw [show i + 1 - s = (i - s) + 1 by omega]
          show _ = ((27 * xNl T s (i - s) + (T (s + (i - s)) - 96) : Nat) : Int)
          rw [show s + (i - s) = i by omega]
          omega
        have f0 : eFr xm2 h (jhI h 110 2 (jz ((i + 1 : Nat) : Int))) := xm2_I (eFr_refl _ _) _
        obtain ⟨p1, p2⟩ := ih (i + 1) (by omega) (by omega) (by omega) (by omega) (fun j h5 h6 => by
          by_cases z : j = i
          · subst z; exact c
          · exact hd j h5 (by omega)) (jhI h 110 2 (jz ((i + 1 : Nat) : Int))) (xTm_m t (xm_2 f0)) (by rw [f0.1 _ _ (by unfold xm2; omega)]; exact h3) rfl (by rw [f0.1 _ _ (by unfold xm2; omega)]; exact h35)
        dsimp only
        rw [en]
        refine ⟨fun u => ?_, fun u => ?_⟩
        · obtain ⟨h', r1, r2, r3⟩ := p1 u
          exact ⟨h', r1, r2, eFr_trans f0 r3⟩
        · obtain ⟨h', r1, r2, r3⟩ := p2 u
          exact ⟨h', r1, r2, eFr_trans f0 r3⟩
    · rw [xRun_st (s := i) (fun t => c t.2)] at rm
      have st : fM_name_l58 (jw (xNl T s (i - s) : Int), h) = some (.inr (.inr (jw (xNl T s (i - s) : Int), h))) := by
        simp only [fM_name_l58, fM_name_l58_b, h2, h3]
        rw [if_pos (by rw [jz_lt (by omega) (by omega) (by omega) (by omega)]; omega), if_pos ji]
        simp only [ix, tk.2, sM_let tk.1]
        rw [if_neg c, if_pos rfl]
      rw [jlim_eq, st]
      refine ⟨fun _ => ⟨h, ?_, by rw [rm]; exact h2, eFr_refl _ _⟩, fun q => by omega⟩
      rw [rm]
theorem sM_name (R : mR n T e s h) : (¬ xWord n T e s → ∃ h', fM_name h = some (0, h') ∧ mF n T 1 s h' ∧ eFr xm h h') ∧ (xWord n T e s → xOwn n T e s = true → ∃ h', fM_name h = some (0, h') ∧ mF n T 1 s h' ∧ eFr xm h h') ∧ (xWord n T e s → ¬ xOwn n T e s = true → 6 < xRun n T xL s - s → ∃ h', fM_name h = some (0, h') ∧ mF n T 1 ((s + 6 : Nat) : Int) h' ∧ eFr xm h h') ∧ (xWord n T e s → ¬ xOwn n T e s = true → ¬ 6 < xRun n T xL s - s → ∃ h', fM_name h = some (jw (xNl T s (xRun n T xL s - s) : Int), h') ∧ mR n T (xRun n T xL s) (xSk n T (xRun n T xL s)) h' ∧ eFr xm h h' ∧ h'.1 110 35 = jz s) := by
  have me := mR_e R
  obtain ⟨h1, q1, q2, q3⟩ := sM_look R
  have t1 := q2.1.1
  have h3 := q2.1.2.2.2.2.1
  have h4 := q2.1.2.2.2.2.2.1
  have dg := sM_letC (s := s) t1
  have ow := sM_own q2
  have op : xWord n T e s → fM_name h = if (if xOwn n T e s = true then (1 : Int32) else 0) = 0 then Option.bind (jlim fM_name_l58 (jw (xNl T s (s - s) : Int), jhI h1 110 35 (jz s))) (fun x15 => Sum.elim (fun y15 : jH => some (0, fM_fail 1 (y15.1 110 2) y15)) (fun y15 : Int64 × jH => some (y15.1, jhI y15.2 110 4 (y15.2.1 110 2))) x15) else some (0, fM_fail 1 (h1.1 110 2) h1) := by
    rintro ⟨c0, cd, ce⟩
    unfold fM_name fM_name_j37
    rw [mR_5 R, if_pos rfl, q1, Option.bind_some, dg, if_pos (show s < n ∧ xL (T s) = true from ⟨c0, cd⟩), if_neg (show ¬ (1 : Int32) = 0 by decide)]
    dsimp only
    rw [q2.2, h4, if_neg (by rw [jz_eq (by omega) (by omega) (by omega) (by omega)]; exact ce), ow, Option.bind_some, Nat.sub_self]
    dsimp only
    rw [q2.2]
    rfl
  have f35 : eFr xm h1 (jhI h1 110 35 (jz s)) := xm_I35 (eFr_refl _ _) _
  have fl := sM_failR (p2 := (s : Int)) q2 (f := 1) (by omega)
  have rgt : xWord n T e s → s < xRun n T xL s ∧ xRun n T xL s ≤ n := fun hy => xRunL_gt hy.1 hy.2.1
  have nl := sM_namel (n := n) (T := T) (s := s) (n - s) s rfl (Nat.le_refl _) (by omega) (by omega) (fun j h1 h2 => by omega) (jhI h1 110 35 (jz s)) (xTm_m t1 f35) (by rw [jhI_1, if_neg (by omega)]; exact h3) (by rw [jhI_1, if_neg (by omega)]; exact q2.2) rfl
  refine ⟨fun hn => ?_, fun hy ho => ?_, fun hy ho h5 => ?_, fun hy ho h5 => ?_⟩
  · refine ⟨_, ?_, fl.1, eFr_trans (xm_2 q3) fl.2⟩
    unfold fM_name fM_name_j37
    rw [mR_5 R, if_pos rfl, q1, Option.bind_some, dg]
    dsimp only
    by_cases c : s < n ∧ xL (T s) = true
    · rw [if_pos c, if_neg (by decide), q2.2, h4]
      by_cases ce : (s : Int) = e
      · rw [if_pos (by rw [ce])]
        rfl
      · exact absurd ⟨c.1, c.2, ce⟩ hn
    · rw [if_neg c, if_pos rfl, q2.2]
      rfl
  · refine ⟨_, ?_, fl.1, eFr_trans (xm_2 q3) fl.2⟩
    rw [op hy, if_pos ho, if_neg (by decide), q2.2]
    rfl
  · obtain ⟨v2, v3⟩ := rgt hy
    obtain ⟨y, p1, p2, p3⟩ := nl.2 h5
    have fy : eFr xm h1 y := eFr_trans f35 (xm_2 p3)
    have y5 : y.1 110 5 = jz 0 := by rw [p3.1 _ _ (by unfold xm2; omega), jhI_1, if_neg (by omega)]; exact q2.1.2.2.2.2.2.2.2.1
    have f0 : eFr xm h1 (jhI (jhI y 110 5 (jz 1)) 110 6 (jz ((s + 6 : Nat) : Int))) := xm_I6 (xm_I5 fy _) _
    refine ⟨_, ?_, ⟨xTm_m t1 f0, eWd_m q2.1.2.1 f0, ⟨s + 6, by omega, ?_⟩, ?_, by omega, by omega, rfl, rfl⟩, eFr_trans (xm_2 q3) f0⟩
    · rw [op hy, if_neg ho, if_pos rfl, p1, Option.bind_some]
      dsimp only [Sum.elim_inl]
      unfold fM_fail
      rw [y5, if_pos (show jz 0 = 0 from rfl), p2]
      rfl
    · rw [jhI_1, if_neg (by omega), jhI_1, if_neg (by omega)]; exact p2
    · rw [jhI_1, if_neg (by omega), jhI_1, if_neg (by omega), p3.1 _ _ (by unfold xm2; omega), jhI_1, if_neg (by omega)]; exact h3
  · obtain ⟨v2, v3⟩ := rgt hy
    obtain ⟨y, p1, p2, p3⟩ := nl.1 (by omega)
    have fy : eFr xm h1 (jhI y 110 4 (jz (xRun n T xL s : Int))) := xm_I4 (eFr_trans f35 (xm_2 p3)) _
    obtain ⟨⟨r1, r2, r3, -, r8, r9, r10, r11, r12⟩, R2⟩ := q2
    refine ⟨_, ?_, ⟨xTm_m r1 fy, eWd_m r2 fy, xSk_le v3, ⟨xRun n T xL s, xSk_ge, rfl, Int.le_refl _, ?_⟩, ?_, rfl, by omega, ?_, ?_⟩, eFr_trans (xm_2 q3) fy, ?_⟩
    · rw [op hy, if_neg ho, if_pos rfl, p1, Option.bind_some]
      dsimp only [Sum.elim_inr]
      rw [p2]
    · rw [jhI_1, if_neg (by omega)]; exact p2
    · rw [jhI_1, if_neg (by omega), p3.1 _ _ (by unfold xm2; omega), jhI_1, if_neg (by omega)]; exact r8
    · rw [jhI_1, if_neg (by omega), p3.1 _ _ (by unfold xm2; omega), jhI_1, if_neg (by omega)]; exact r11
    · rw [jhI_1, if_neg (by omega), p3.1 _ _ (by unfold xm2; omega), jhI_1, if_neg (by omega)]; exact r12
    · rw [jhI_1, if_neg (by omega), p3.1 _ _ (by unfold xm2; omega)]; rfl
theorem sM_nameF (R : mF n T f pl h) : fM_name h = some (0, h) := by
  unfold fM_name
  rw [if_neg (mF_5 R)]
end XN
