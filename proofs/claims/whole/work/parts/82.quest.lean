/-! a question read, on both sides -/
section XU
variable {n : Nat} {T : Nat → Nat} {o : Nat} {a : Int} {W : List Int} {e : Int} {s : Nat} {L C π : List Int} {hc hm h : jH} {f pl : Int}
theorem l110_ok : ∀ (π C : List Int) (h : jH), mR n T e s h → mO π 0 a C 1 h → C.length + π.length ≤ 1600 → ∃ h', jlim fM_qTest_l110 h = some h' ∧ mO [] 0 a (C ++ π) 1 h' ∧ eFr xq h h' := by
  intro π
  induction π with
  | nil =>
    intro C h R O _
    rw [List.append_nil]
    refine ⟨h, ?_, O, eFr_refl _ _⟩
    have o1 := O.1
    rw [jlim_1]
    show lim1 _ (fM_qTest_l110_b h) = _
    unfold fM_qTest_l110_b
    rw [mR_5 R, if_pos rfl, o1, if_neg (show ¬ (0 : Int32) < jz (([] : List Int).length : Int) by decide)]
    rfl
  | cons y π ih =>
    intro C h R O hl
    simp only [List.length_cons] at hl
    obtain ⟨h1, q1, q2, q3⟩ := sM_drops O (Nat.zero_le _) (by omega)
    obtain ⟨h2, p1, p2, p3⟩ := ih (C ++ [y]) h1 (mR_q R q3) q2 (by rw [List.length_append, List.length_singleton]; omega)
    refine ⟨h2, ?_, by rw [List.append_assoc] at p2; exact p2, eFr_trans q3 p3⟩
    have o1 := O.1
    simp only [List.length_cons] at o1
    rw [jlim_1]
    show lim1 _ (fM_qTest_l110_b h) = _
    unfold fM_qTest_l110_b
    rw [mR_5 R, if_pos rfl, o1, if_pos (by rw [show (0 : Int32) = jz 0 from rfl, jz_lt (by omega) (by omega) (by omega) (by omega)]; omega), q1, Option.bind_some]
    exact p1
theorem l110_F (R : mF n T f pl h) : jlim fM_qTest_l110 h = some h := by
  rw [jlim_1]
  show lim1 _ (fM_qTest_l110_b h) = _
  unfold fM_qTest_l110_b
  rw [if_neg (mF_5 R)]
  rfl
/-- a TEST -/
theorem test_ok (R : cR n T e s hc) (O : cO o [] 1 hc) (R' : mR n T e s hm) (O' : mO [] 0 0 [] 1 hm) : ∃ hc', fFo_grp 400 0 o 0 0 hc = some hc' ∧ eFr (xc o) hc hc' ∧ ((∃ f pl hm', cF f pl hc' ∧ fM_qTest hm = some hm' ∧ mF n T f pl hm' ∧ eFr xg hm hm') ∨ (∃ e' s' l C' hm', fM_qTest hm = some hm' ∧ cR n T e' s' hc' ∧ cO o l 1 hc' ∧ mL n T e' s' hm' ∧ xRel 1 l C' ∧ mO [] 0 0 C' 1 hm' ∧ jsgB 64 l ∧ eFr xg hm hm')) := by
  have S : xS 0 n T o 1 0 0 [] e s [] [] [] hc hm := xS_mk R O R' O' ⟨rfl, fun j hj => by simp at hj⟩ (by simp) (Nat.zero_le _)
  have t6 := (yTest_all (n := n) (T := T) (o := o) 6 (by omega) 398 (by omega)).2
  rw [show 6 - ((6 : Nat) : Int) = 0 by omega] at t6
  obtain ⟨hc', g1, g2, g3⟩ := t6 _ _ _ _ _ _ _ S (fun x hx => by cases hx) (fun x r h => by cases h)
  have qt : fM_qTest hm = Option.bind (tP hm) (fun x15 => Option.bind (jlim fM_qTest_l110 x15) (fun x19 => some x19)) := rfl
  refine ⟨hc', g1, g2, ?_⟩
  rcases g3 with ⟨f', pl', h5, b1, b2, b3, b4, b5, -⟩ | ⟨e5, s5, l5, C5, π5, h5, d1, d2, ⟨d31, d32, d33⟩, d4, d5, d6⟩
  · refine Or.inl ⟨f', pl', h5, b1, ?_, b4, b5⟩
    rw [qt, b3, Option.bind_some, l110_F b4, Option.bind_some]
  · obtain ⟨u1, u2, u3, u4, u5, u6, -⟩ := d2
    rw [List.append_nil] at u4
    rw [List.nil_append] at u2 u5
    have me5 := mR_e u3
    obtain ⟨h6, v1, v2, v3, v4⟩ := tG_end u3 u4 d31 d32 d33
    obtain ⟨h7, p1, p2, p3⟩ := l110_ok π5 C5 h6 v2.1 v3 (by omega)
    refine Or.inr ⟨e5, s5, l5, C5 ++ π5, h7, ?_, u1, u2, mL_q v2 p3, u5, p2, jsgB_m d5 (by decide), eFr_trans d6 (eFr_trans v4 (xg_q p3))⟩
    rw [qt, d1, v1, Option.bind_some, p1, Option.bind_some]
/-- the kind of a question -/
theorem kind_ok (R : cR n T e s hc) (R' : mR n T e s hm) : ∃ (k : Int) (hc' hm' : jH), 0 ≤ k ∧ k ≤ 5 ∧ fFo_readKind hc = some (jz k, hc') ∧ fM_qKind hm = some (jz k, hm') ∧ eFr x6 hc hc' ∧ eFr xm hm hm' ∧ ((k = 5 ∧ ∃ f pl, cF f pl hc' ∧ mF n T f pl hm') ∨ (∃ e' s', cR n T e' s' hc' ∧ mR n T e' s' hm')) := by
  obtain ⟨h1, m1, m2, m3⟩ : ∃ h1, fM_takes 153 hm = (if xHas n T e s (xw 25) = true then fM_takes 153 hm else some (0, h1)) ∧ mL n T e s h1 ∧ eFr xm hm h1 := by
    by_cases y : xHas n T e s (xw 25) = true
    · obtain ⟨h1, -, p2, p3⟩ := sM_look R'
      exact ⟨h1, by rw [if_pos y], p2, xm_2 p3⟩
    · obtain ⟨h1, p1, p2, p3⟩ := (sM_takes R' (xMw_xw (i := 0) (by omega))).1 y
      exact ⟨h1, by rw [if_neg y]; exact p1, p2, p3⟩
  have c25 := sRd_tword (i := 25) R (by omega)
  have c26 := sRd_tword (i := 26) R (by omega)
  have c27 := sRd_tword (i := 27) R (by omega)
  have c28 := sRd_tword (i := 28) R (by omega)
  have c29 := sRd_tword (i := 29) R (by omega)
  have c30 := sRd_wword (i := 30) R (by omega)
  have r26 := sM_takes m2.1 (xMw_xw (i := 1) (by omega))
  have r27 := sM_takes m2.1 (xMw_xw (i := 2) (by omega))
  have r28 := sM_takes m2.1 (xMw_xw (i := 3) (by omega))
  have r29 := sM_takes m2.1 (xMw_xw (i := 4) (by omega))
  have r30 := sM_asks m2.1 (xMw_xw (i := 5) (by omega))
  have n1 : ¬ (1 : Int32) = 0 := by decide
  by_cases y25 : xHas n T e s (xw 25) = true
  · obtain ⟨hc1, a1, a2, a3⟩ := c25.2 y25
    obtain ⟨h2, q1, q2, q3⟩ := (sM_takes R' (xMw_xw (i := 0) (by omega))).2 y25
    refine ⟨0, hc1, h2, by omega, by omega, ?_, ?_, a3, q3, Or.inr ⟨_, _, a2, q2⟩⟩
    · unfold fFo_readKind
      rw [show fRd_takesWord 1025 hc = _ from a1, Option.bind_some, if_neg n1]
      rfl
    · unfold fM_qKind
      rw [show fM_takes 153 hm = _ from q1, Option.bind_some, if_neg n1]
      rfl
  rw [if_neg y25] at m1
  have k25 : fFo_readKind hc = (Option.bind (fRd_takesWord 1026 hc) (fun z3 => (if z3.1 = 0 then (Option.bind (fRd_takesWord 1027 z3.2) (fun z5 => (if z5.1 = 0 then (Option.bind (fRd_takesWord 1028 z5.2) (fun z7 => (if z7.1 = 0 then (Option.bind (fRd_takesWord 1029 z7.2) (fun z9 => (if z9.1 = 0 then (Option.bind (fRd_wantsWord 1030 z9.2) (fun z11 => some (5, z11))) else some (4, z9.2)))) else some (3, z7.2)))) else some (2, z5.2)))) else some (1, z3.2)))) := by
    unfold fFo_readKind
    rw [show fRd_takesWord 1025 hc = _ from c25.1 y25, Option.bind_some, if_pos rfl]
  have j25 : fM_qKind hm = (Option.bind (fM_takes 154 h1) (fun z3 => (if z3.1 = 0 then (Option.bind (fM_takes 155 z3.2) (fun z5 => (if z5.1 = 0 then (Option.bind (fM_takes 156 z5.2) (fun z7 => (if z7.1 = 0 then (Option.bind (fM_takes 157 z7.2) (fun z9 => (if z9.1 = 0 then fM_qKind_j76 5 z9.2 else fM_qKind_j76 4 z9.2))) else fM_qKind_j76 3 z7.2))) else fM_qKind_j76 2 z5.2))) else fM_qKind_j76 1 z3.2))) := by
    unfold fM_qKind
    rw [m1, Option.bind_some, if_pos rfl]
  rw [k25, j25]
  by_cases y26 : xHas n T e s (xw 26) = true
  · obtain ⟨hc1, a1, a2, a3⟩ := c26.2 y26
    obtain ⟨h2, q1, q2, q3⟩ := r26.2 y26
    refine ⟨1, hc1, h2, by omega, by omega, ?_, ?_, a3, eFr_trans m3 q3, Or.inr ⟨_, _, a2, q2⟩⟩
    · rw [show fRd_takesWord 1026 hc = _ from a1, Option.bind_some, if_neg n1]
      rfl
    · rw [show fM_takes 154 h1 = _ from q1, Option.bind_some, if_neg n1]
      rfl
  have t26 : fM_takes 154 h1 = some (0, h1) := sM_tk0 m2 (xMw_xw (i := 1) (by omega)) y26
  rw [show fRd_takesWord 1026 hc = _ from c26.1 y26, Option.bind_some, if_pos rfl, t26, Option.bind_some, if_pos rfl]
  dsimp only
  by_cases y27 : xHas n T e s (xw 27) = true
  · obtain ⟨hc1, a1, a2, a3⟩ := c27.2 y27
    obtain ⟨h2, q1, q2, q3⟩ := r27.2 y27
    refine ⟨2, hc1, h2, by omega, by omega, ?_, ?_, a3, eFr_trans m3 q3, Or.inr ⟨_, _, a2, q2⟩⟩
    · rw [show fRd_takesWord 1027 hc = _ from a1, Option.bind_some, if_neg n1]
      rfl
    · rw [show fM_takes 155 h1 = _ from q1, Option.bind_some, if_neg n1]
      rfl
  have t27 : fM_takes 155 h1 = some (0, h1) := sM_tk0 m2 (xMw_xw (i := 2) (by omega)) y27
  rw [show fRd_takesWord 1027 hc = _ from c27.1 y27, Option.bind_some, if_pos rfl, t27, Option.bind_some, if_pos rfl]
  dsimp only
  by_cases y28 : xHas n T e s (xw 28) = true
  · obtain ⟨hc1, a1, a2, a3⟩ := c28.2 y28
    obtain ⟨h2, q1, q2, q3⟩ := r28.2 y28
    refine ⟨3, hc1, h2, by omega, by omega, ?_, ?_, a3, eFr_trans m3 q3, Or.inr ⟨_, _, a2, q2⟩⟩
    · rw [show fRd_takesWord 1028 hc = _ from a1, Option.bind_some, if_neg n1]
      rfl
    · rw [show fM_takes 156 h1 = _ from q1, Option.bind_some, if_neg n1]
      rfl
  have t28 : fM_takes 156 h1 = some (0, h1) := sM_tk0 m2 (xMw_xw (i := 3) (by omega)) y28
  rw [show fRd_takesWord 1028 hc = _ from c28.1 y28, Option.bind_some, if_pos rfl, t28, Option.bind_some, if_pos rfl]
  dsimp only
  by_cases y29 : xHas n T e s (xw 29) = true
  · obtain ⟨hc1, a1, a2, a3⟩ := c29.2 y29
    obtain ⟨h2, q1, q2, q3⟩ := r29.2 y29
    refine ⟨4, hc1, h2, by omega, by omega, ?_, ?_, a3, eFr_trans m3 q3, Or.inr ⟨_, _, a2, q2⟩⟩
    · rw [show fRd_takesWord 1029 hc = _ from a1, Option.bind_some, if_neg n1]
      rfl
    · rw [show fM_takes 157 h1 = _ from q1, Option.bind_some, if_neg n1]
      rfl
  have t29 : fM_takes 157 h1 = some (0, h1) := sM_tk0 m2 (xMw_xw (i := 4) (by omega)) y29
  rw [show fRd_takesWord 1029 hc = _ from c29.1 y29, Option.bind_some, if_pos rfl, t29, Option.bind_some, if_pos rfl]
  dsimp only
  unfold fM_qKind_j76
  rw [if_pos rfl]
  by_cases y30 : xHas n T e s (xw 30) = true
  · obtain ⟨hc1, a1, a2, a3⟩ := c30.2 y30
    obtain ⟨h2, q1, q2, q3⟩ := r30.2 y30
    refine ⟨5, hc1, h2, by omega, by omega, ?_, ?_, a3, eFr_trans m3 q3, Or.inr ⟨_, _, a2, q2⟩⟩
    · rw [show fRd_wantsWord 1030 hc = _ from a1, Option.bind_some]
      rfl
    · rw [show fM_asks 158 h1 = _ from q1, Option.bind_some]
      rfl
  · obtain ⟨hc1, a1, a2, a3⟩ := c30.1 y30
    obtain ⟨h2, q1, q2, q3⟩ := r30.1 y30
    refine ⟨5, hc1, h2, by omega, by omega, ?_, ?_, a3, eFr_trans m3 q3, Or.inl ⟨rfl, _, _, a2, q2⟩⟩
    · rw [show fRd_wantsWord 1030 hc = _ from a1, Option.bind_some]
      rfl
    · rw [show fM_asks 158 h1 = _ from q1, Option.bind_some]
      rfl
/-- nothing may stand behind -/
theorem end_ok (R : cR n T e s hc) (R' : mL n T e s hm) (x : Int32) : ∃ hm', fM_ask_j109 x hm = fM_ask_j133 x hm' ∧ eFr x6 hc (fRd_wantsEnd hc) ∧ eFr xm hm hm' ∧ ((∃ f pl, cF f pl (fRd_wantsEnd hc) ∧ mF n T f pl hm') ∨ (hm' = hm ∧ fRd_wantsEnd hc = hc)) := by
  have me := mR_e R'.1
  have c0 := (goes_R R)
  have k := R.2.2.2.2.2.1
  have l := sM_look0 R'
  have hT := R'.1.1
  unfold fM_ask_j109
  rw [mR_5 R'.1, if_pos rfl, l, Option.bind_some]
  dsimp only
  by_cases z : s < n
  · have fl := sRd_hereR R (f := 1) (by omega)
    have kb := xKd_b (n := n) (T := T) (e := e) (s := s)
    have k0 : ¬ hc.1 6 3 = 0 := by
      intro t
      have := c0.1 z
      unfold fRd_goesOn at this
      rw [if_pos t] at this
      exact absurd this (by decide)
    have we : fRd_wantsEnd hc = fRd_failHere 1 hc := by unfold fRd_wantsEnd; rw [if_neg k0]
    have fm := sM_failR (p2 := (s : Int)) R' (f := 1) (by omega)
    have nx : ¬ jz (xCh n T s) = -1 := by
      have := (hT.2 s z).1
      rw [show (-1 : Int32) = jz (-1) from rfl]
      unfold xCh
      rw [if_pos z, jz_eq (by omega) (by omega) (by omega) (by omega)]
      omega
    rw [if_neg nx, R'.2]
    exact ⟨_, rfl, by rw [we]; exact fl.2, fm.2, Or.inl ⟨1, s, by rw [we]; exact fl.1, fm.1⟩⟩
  · have kd : xKd n T e s = 0 := by unfold xKd; rw [if_neg z]
    have we : fRd_wantsEnd hc = hc := by unfold fRd_wantsEnd; rw [k, kd, if_pos (show jz 0 = 0 from rfl)]
    have nx : jz (xCh n T s) = -1 := by unfold xCh; rw [if_neg z]; rfl
    rw [if_pos nx]
    exact ⟨hm, rfl, by rw [we]; exact eFr_refl _ _, eFr_refl _ _, Or.inr ⟨rfl, we⟩⟩
theorem end_F (R : cF f pl hc) (R' : mF n T f pl hm) (x : Int32) : fM_ask_j109 x hm = fM_ask_j133 x hm ∧ eFr x6 hc (fRd_wantsEnd hc) ∧ cF f pl (fRd_wantsEnd hc) := by
  have fl := sRd_hereF R 1
  have we : fRd_wantsEnd hc = fRd_failHere 1 hc := by
    unfold fRd_wantsEnd
    obtain ⟨-, -, -, -, r5⟩ := R
    rw [r5, if_neg (show ¬ jz 5 = 0 by decide)]
  refine ⟨?_, by rw [we]; exact fl.2, by rw [we]; exact fl.1⟩
  unfold fM_ask_j109
  rw [if_neg (mF_5 R')]
/-- a question -/
theorem quest_ok (R : cR n T e s hc) (O : cO 8 [] 1 hc) (R' : mR n T e s hm) (O' : mO [] 0 0 [] 1 hm) : ∃ (k : Int) (hc' hm' : jH), 0 ≤ k ∧ k ≤ 5 ∧ Option.bind (fFo_readKind hc) (fun z1 => if 2 < z1.1 then (Option.bind (fFo_grp 400 3 8 0 0 z1.2) (fun z3 => fFo_readQuestion_j35 z1.1 z3)) else (Option.bind (fFo_grp 400 0 8 0 0 z1.2) (fun z5 => fFo_readQuestion_j35 z1.1 z5))) = some (jz k, hc') ∧ Option.bind (fM_qKind hm) (fun z2 => if (z2.2.1 110 5) = 0 then (if z2.1 < 3 then (Option.bind (fM_qTest z2.2) (fun z5 => fM_ask_j109 z2.1 z5)) else fM_ask_j98 z2.1 z2.2) else fM_ask_j98 z2.1 z2.2) = fM_ask_j133 (jz k) hm' ∧ eFr (xc 8) hc hc' ∧ eFr xg hm hm' ∧ ((∃ f pl, cF f pl hc' ∧ mF n T f pl hm') ∨ (∃ e' s' l C', cR n T e' s' hc' ∧ cO 8 l 1 hc' ∧ mR n T e' s' hm' ∧ mO [] 0 0 C' 1 hm' ∧ xRel 1 l C' ∧ (k < 3 → jsgB 64 l) ∧ jseg 64 l)) := by
  have ho := O.2.2.2.2
  obtain ⟨k, hc1, hm1, k0, k5, a1, a2, a3, a4, a5⟩ := kind_ok R R'
  have lt3 : jz k < 3 ↔ k < 3 := by rw [show (3 : Int32) = jz 3 from rfl, jz_lt (by omega) (by omega) (by omega) (by omega)]
  have lt2 : 2 < jz k ↔ 2 < k := by rw [show (2 : Int32) = jz 2 from rfl, jz_lt (by omega) (by omega) (by omega) (by omega)]
  rw [a1, Option.bind_some, a2, Option.bind_some]
  dsimp only
  rcases a5 with ⟨rfl, f, pl, b1, b2⟩ | ⟨e1, s1, b1, b2⟩
  · obtain ⟨w1, w2, w3⟩ := end_F b1 b2 (jz 5)
    refine ⟨5, fRd_wantsEnd hc1, hm1, by omega, by omega, ?_, ?_, xc_6 (eFr_trans a3 w2), xg_m a4, Or.inl ⟨f, pl, w3, b2⟩⟩
    · rw [if_pos (lt2.mpr (by omega)), sums_F (by omega) b1, Option.bind_some]
      rfl
    · rw [if_neg (mF_5 b2)]
      unfold fM_ask_j98
      rw [if_neg (mF_5 b2)]
      exact w1
  · have O1 := cO_6 O a3
    have O1' := mO_m O' a4
    rw [if_pos (mR_5 b2)]
    by_cases z : k < 3
    · rw [if_pos (lt3.mpr z), if_neg (fun t => by have := lt2.mp t; omega)]
      obtain ⟨hc2, g1, g2, g3⟩ := test_ok b1 O1 b2 O1'
      rw [g1, Option.bind_some]
      rcases g3 with ⟨f, pl, hm2, d1, d2, d3, d4⟩ | ⟨e2, s2, l, C2, hm2, d1, d2, d3, d4, d5, d6, d7, d8⟩
      · obtain ⟨w1, w2, w3⟩ := end_F d1 d3 (jz k)
        refine ⟨k, fRd_wantsEnd hc2, hm2, k0, k5, rfl, by rw [d2, Option.bind_some]; exact w1, eFr_trans (xc_6 a3) (eFr_trans g2 (xc_6 w2)), eFr_trans (xg_m a4) d4, Or.inl ⟨f, pl, w3, d3⟩⟩
      · obtain ⟨hm3, w1, w2, w3, w4⟩ := end_ok d2 d4 (jz k)
        refine ⟨k, fRd_wantsEnd hc2, hm3, k0, k5, rfl, by rw [d1, Option.bind_some]; exact w1, eFr_trans (xc_6 a3) (eFr_trans g2 (xc_6 w2)), eFr_trans (xg_m a4) (eFr_trans d8 (xg_m w3)), ?_⟩
        rcases w4 with w4 | ⟨w4, w5⟩
        · exact Or.inl w4
        · rw [w4, w5]
          exact Or.inr ⟨e2, s2, l, C2, d2, d3, d4.1, d6, d5, fun _ => d7, jsgB_s d7⟩
    · rw [if_neg (fun t => z (lt3.mp t)), if_pos (lt2.mpr (by omega))]
      have me1 := mR_e b2
      obtain ⟨hc2, g1, g2, g3⟩ := sums_ok (dd := 0) (K := 400) (a := 0) (by omega) (by omega) b1 O1 b2 O1' ⟨rfl, fun j hj => by simp at hj⟩ (by simp) (fun x r h => by cases h)
      have g1' : fFo_grp 400 3 8 0 0 hc1 = some hc2 := g1
      unfold fM_ask_j98
      rw [g1', Option.bind_some, if_pos (mR_5 b2)]
      rcases g3 with ⟨f, pl, hm2, d1, d2, d3, d4, d5⟩ | ⟨e2, s2, l, C2, hm2, d1, d2, d3, d4, d5, d6, d7, d8, d9, d10, d11, d12⟩
      · obtain ⟨w1, w2, w3⟩ := end_F d1 d4 (jz k)
        refine ⟨k, fRd_wantsEnd hc2, hm2, k0, k5, rfl, by rw [d3, Option.bind_some]; exact w1, eFr_trans (xc_6 a3) (eFr_trans g2 (xc_6 w2)), eFr_trans (xg_m a4) d5.1, Or.inl ⟨f, pl, w3, d4⟩⟩
      · obtain ⟨hm3, w1, w2, w3, w4⟩ := end_ok d2 d4 (jz k)
        refine ⟨k, fRd_wantsEnd hc2, hm3, k0, k5, rfl, by rw [d1, Option.bind_some]; exact w1, eFr_trans (xc_6 a3) (eFr_trans g2 (xc_6 w2)), eFr_trans (xg_m a4) (eFr_trans d12 (xg_m w3)), ?_⟩
        rcases w4 with w4 | ⟨w4, w5⟩
        · exact Or.inl w4
        · rw [w4, w5]
          rw [List.nil_append] at d3 d6
          exact Or.inr ⟨e2, s2, l, C2, d2, d3, d4.1, d5, d6, fun t => absurd t z, jseg_m d9 (by decide)⟩
end XU
