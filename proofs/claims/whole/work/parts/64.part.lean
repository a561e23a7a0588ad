/-! a PART, on both sides -/
def xst (md x : Int) : Prop := md = 0 → (-17 < x ∧ x ≤ 9999 ∧ (x < 0 → x ≤ -4))
def pm (a : Int) : Nat := (3 * (6 - a) + 1).toNat
def xS (dd n : Nat) (T : Nat → Nat) (o : Nat) (md : Int) (b : Nat) (a : Int) (W : List Int) (e : Int) (s : Nat) (L C π : List Int) (hc hm : jH) : Prop := cR n T e s hc ∧ cO o L md hc ∧ mR n T e s hm ∧ mO (π ++ W) b a C md hm ∧ xRel md L (C ++ π) ∧ C.length + π.length + W.length + dd ≤ s ∧ b ≤ W.length
def xBad (n : Nat) (T : Nat → Nat) (o : Nat) (hc' hm : jH) (k : Option jH) : Prop := ∃ f pl hm', cF f pl hc' ∧ xcnt o hc' ∧ k = some hm' ∧ mF n T f pl hm' ∧ xgF hm hm'
def xGood (dd : Nat) (v : Int32) (n : Nat) (T : Nat → Nat) (o : Nat) (md : Int) (b : Nat) (a : Int) (W : List Int) (s : Nat) (L : List Int) (m : Nat) (P : List Int → Nat → Prop) (hc' hm : jH) (k : Option jH) : Prop := ∃ e' s' l C' π hm', k = kA v hm' ∧ xS dd n T o md b a W e' s' (L ++ l) C' π hc' hm' ∧ P π s' ∧ s < s' ∧ jseg m l ∧ (∀ x ∈ l, xst md x) ∧ eFr xg hm hm'
def xPartL (dd : Nat) (v : Int32) (n : Nat) (T : Nat → Nat) (o : Nat) (md : Int) (b N : Nat) (a : Int) : Prop := ∀ W e s L C hc hm, xS dd n T o md b a W e s L C [] hc hm → ∃ hc', fFo_grp N 5 o (jz a) 0 hc = some hc' ∧ eFr (xc o) hc hc' ∧ (xBad n T o hc' hm (kP v hm) ∨ xGood dd v n T o md b a W s L (pm a) (fun π _ => π = []) hc' hm (kP v hm))
def xSumL (dd : Nat) (v : Int32) (n : Nat) (T : Nat → Nat) (o : Nat) (md : Int) (b N : Nat) (a : Int) : Prop := ∀ W e s L C hc hm, xS dd n T o md b a W e s L C [] hc hm → xbr W b → xhd (fun x => ¬ xop x) W → ∃ hc', fFo_grp N 3 o (jz a) 0 hc = some hc' ∧ eFr (xc o) hc hc' ∧ (xBad n T o hc' hm (kP v hm) ∨ xGood dd v n T o md b a W s L (pm a + 2) (fun π s' => (∀ x ∈ π, xop x) ∧ xno n T s') hc' hm (kP v hm))
section XP
variable {dd : Nat} {v : Int32} {n : Nat} {T : Nat → Nat} {o : Nat} {md : Int} {b : Nat} {a : Int} {W : List Int} {e : Int} {s : Nat} {L C π : List Int} {hc hm : jH} {f pl : Int}
theorem xS_mk (R : cR n T e s hc) (O : cO o L md hc) (R' : mR n T e s hm) (O' : mO W b a C md hm) (rl : xRel md L C) (hl : C.length + W.length + dd ≤ s) (hb : b ≤ W.length) : xS dd n T o md b a W e s L C [] hc hm :=
  ⟨R, O, R', O', by rw [List.append_nil]; exact rl, by simp only [List.length_nil]; omega, hb⟩
theorem xS_un (S : xS dd n T o md b a W e s L C [] hc hm) : cR n T e s hc ∧ cO o L md hc ∧ mR n T e s hm ∧ mO W b a C md hm ∧ xRel md L C ∧ C.length + W.length + dd ≤ s ∧ b ≤ W.length := by
  obtain ⟨s1, s2, s3, s4, s5, s6, s7⟩ := S
  rw [List.append_nil] at s5
  simp only [List.length_nil] at s6
  exact ⟨s1, s2, s3, s4, s5, by omega, s7⟩
theorem mR_n (R : mR n T e s hm) : s ≤ 1600 := by have := mR_e R; omega
theorem sM_endsF (R : mF n T f pl hm) : fM_qEndsPart hm = some hm := by
  unfold fM_qEndsPart
  rw [jlim_1]
  show Option.bind (lim1 _ (fM_qEndsPart_l0_b hm)) _ = _
  unfold fM_qEndsPart_l0_b
  rw [if_neg (mF_5 R)]
  rfl
def mcw (h : jH) : Prop := ∃ c w : Nat, c + w ≤ 1680 ∧ h.1 110 80 = jz c ∧ h.1 110 82 = jz w
theorem sM_codeC (R : mF n T f pl hm) (O : mcnt hm) (x : Int32) : ∃ h', fM_qCode x hm = some h' ∧ mF n T f pl h' ∧ eFr xq hm h' ∧ mcw h' := by
  obtain ⟨c, w, c1, c2, c3⟩ := O
  unfold fM_qCode
  rw [c2, if_pos (by rw [jin_z (by omega) (by omega)]; omega)]
  have f0 : eFr xq hm (jhI (jhI hm 173 (jz (c : Int)).toNatClampNeg x) 110 80 ((jhI hm 173 (jz (c : Int)).toNatClampNeg x).1 110 80 + 1)) := xq_I (xq_I3 (eFr_refl _ _) _) (Or.inl rfl) _
  refine ⟨_, rfl, mF_q R f0, f0, c + 1, w, by omega, ?_, ?_⟩
  · rw [jhI_1, if_pos ⟨rfl, rfl⟩, jhI_1, if_neg (by omega), c2, show (1 : Int32) = jz 1 from rfl, jz_add]
    rfl
  · rw [jhI_1, if_neg (by omega), jhI_1, if_neg (by omega)]; exact c3
theorem sM_codeF (R : mF n T f pl hm) (O : mO W b a C md hm) (x : Int32) (hl : C.length + W.length ≤ 1650 := by omega) : ∃ h', fM_qCode x hm = some h' ∧ mF n T f pl h' ∧ eFr xq hm h' ∧ mcnt h' := by
  obtain ⟨o1, o2, o3, o4, o5, o6, o7, o8, o9, o10, o11, o12, o13⟩ := O
  unfold fM_qCode
  rw [o6, if_pos (by rw [jin_z (by omega) (by omega)]; omega)]
  have f0 : eFr xq hm (jhI (jhI hm 173 (jz (C.length : Int)).toNatClampNeg x) 110 80 ((jhI hm 173 (jz (C.length : Int)).toNatClampNeg x).1 110 80 + 1)) := xq_I (xq_I3 (eFr_refl _ _) _) (Or.inl rfl) _
  refine ⟨_, rfl, mF_q R f0, f0, C.length + 1, W.length, by omega, ?_, ?_⟩
  · rw [jhI_1, if_pos ⟨rfl, rfl⟩, jhI_1, if_neg (by omega), o6, show (1 : Int32) = jz 1 from rfl, jz_add]
    rfl
  · rw [jhI_1, if_neg (by omega), jhI_1, if_neg (by omega)]; exact o1
theorem j237_F (R : mF n T f pl hm) (O : mO W b a C md hm) (x : Int32) (hl : C.length + W.length ≤ 1650 := by omega) : ∃ h', fM_qPartTold_j237 x hm = some h' ∧ mF n T f pl h' ∧ eFr xq hm h' ∧ mcnt h' := by
  obtain ⟨h', q1, q2, q3, q4⟩ := sM_codeF R O x
  refine ⟨h', ?_, q2, q3, q4⟩
  unfold fM_qPartTold_j237
  rw [q1, Option.bind_some, sM_endsF q2, Option.bind_some]
/-- a code, and the PART ends -/
theorem j237_k {c : Int} (R : mR n T e s hm) (O : mO W b a C md hm) (hl : C.length + W.length < 1600) (ha : (W.length : Int) - 2000 ≤ a) : ∃ h', Option.bind (fM_qPartTold_j237 (jz c) hm) (kB v) = kA v h' ∧ mR n T e s h' ∧ mO W b a (C ++ [c]) md h' ∧ eFr xq hm h' := by
  obtain ⟨h1, q1, q2, q3⟩ := sM_code (c := c) O (by omega)
  have R1 := mR_q R q3
  obtain ⟨h2, p1, p2⟩ := sM_ends_nf W a (C ++ [c]) h1 R1 q2 (by rw [List.length_append, List.length_singleton]; omega) ha
  refine ⟨h1, ?_, R1, q2, q3⟩
  unfold fM_qPartTold_j237
  rw [q1, Option.bind_some, p1, Option.bind_some, Option.bind_some]
  unfold kB kA
  rw [if_pos p2, p1, Option.bind_some]
/-- the first look of a PART -/
theorem l2_eq (R : mR n T e s hm) (h49 : hm.1 110 49 = jz (1 - md)) (hmd : md = 0 ∨ md = 1) : ∃ h1, mL n T e s h1 ∧ eFr xm2 hm h1 ∧ fM_qPartTold_l2 (1, hm) = (if s < n ∧ T s = 40 then Option.bind (fM_qOpens 20 (jz s) h1) (fun z6 => some (.inl (1, jhI z6 110 2 (z6.1 110 2 + 1)))) else if xHas n T e s (xw 23) = true then fM_qPartTold_l2_j78 1 h1 else if xHas n T e s (xw 24) = true then fM_qPartTold_l2_j78 1 h1 else if xHas n T e s (xw 9) = true ∧ md = 1 then Option.bind (fM_qOpens 60 (jz s) h1) (fun z12 => Option.bind (fM_qAsksWord 7 z12) (fun z13 => some (.inl (1, z13)))) else some (.inl (0, h1))) := by
  obtain ⟨h1, q1, q2, q3⟩ := sM_look R
  have h49' : h1.1 110 49 = jz (1 - md) := by rw [q3.1 _ _ (by unfold xm2; omega)]; exact h49
  have m1 : fM_isHere 163 h1 = _ := sM_here0 q2 (xMw_xw (i := 10) (by omega))
  have m2 : fM_isHere 164 h1 = _ := sM_here0 q2 (xMw_xw (i := 11) (by omega))
  have q7 := xQw_ok (n := n) (T := T) (e := e) (s := s) 7 (by omega)
  have qb := xQw_b (n := n) (T := T) (e := e) (s := s)
  obtain ⟨w, qw, hw⟩ : ∃ w : Int, fM_qWordOf 7 8 h1 = some (jz w, h1) ∧ ((w = 7 ∧ xHas n T e s (xw 9) = true ∧ md = 1) ∨ (w = -1 ∧ ¬ (xHas n T e s (xw 9) = true ∧ md = 1))) := by
    refine ⟨_, sM_qWordOf0 (lo := 7) (hi := 8) q2 h49' hmd (by omega) (by omega), ?_⟩
    by_cases c4 : xHas n T e s (xw 9) = true ∧ md = 1
    · have e7 : xQw n T e s = 7 := q7.mpr c4.1
      rw [if_pos ⟨by omega, by omega, Or.inl c4.2⟩]
      exact Or.inl ⟨e7, c4⟩
    · refine Or.inr ⟨?_, c4⟩
      by_cases e7 : xQw n T e s = 7
      · have := q7.mp e7
        exact if_neg (fun t => t.2.2.elim (fun u => c4 ⟨this, u⟩) (fun u => by omega))
      · exact if_neg (by omega)
  refine ⟨h1, q2, q3, ?_⟩
  show fM_qPartTold_l2_b 1 hm = _
  unfold fM_qPartTold_l2_b
  rw [if_neg (show ¬ (1 : Int32) = 0 by decide), mR_5 R, if_pos rfl, q1, Option.bind_some]
  dsimp only
  rw [qw, Option.bind_some]
  dsimp only
  by_cases c1 : s < n ∧ T s = 40
  · rw [if_pos ((xCh_40 R.1).mpr c1), if_pos c1, q2.2]
    rfl
  · rw [if_neg (fun t => c1 ((xCh_40 R.1).mp t)), if_neg c1, m1, Option.bind_some]
    dsimp only
    by_cases c2 : xHas n T e s (xw 23) = true
    · rw [if_pos (show xHas n T e s (xw ([25, 26, 27, 28, 29, 30, 21, 20, 19, 22, 23, 24].getD 10 0)) = true from c2), if_neg (show ¬ (1 : Int32) = 0 by decide), if_pos c2]
    · rw [if_neg (show ¬ xHas n T e s (xw ([25, 26, 27, 28, 29, 30, 21, 20, 19, 22, 23, 24].getD 10 0)) = true from c2), if_pos rfl, if_neg c2, m2, Option.bind_some]
      dsimp only
      by_cases c3 : xHas n T e s (xw 24) = true
      · rw [if_pos (show xHas n T e s (xw ([25, 26, 27, 28, 29, 30, 21, 20, 19, 22, 23, 24].getD 11 0)) = true from c3), if_neg (show ¬ (1 : Int32) = 0 by decide), if_pos c3]
      · rw [if_neg (show ¬ xHas n T e s (xw ([25, 26, 27, 28, 29, 30, 21, 20, 19, 22, 23, 24].getD 11 0)) = true from c3), if_pos rfl, if_neg c3]
        rcases hw with ⟨rfl, c4⟩ | ⟨rfl, c4⟩
        · rw [if_pos c4, if_neg (show ¬ jz 7 = -1 by decide), q2.2]
          rfl
        · rw [if_neg c4, if_pos (show jz (-1) = -1 from rfl)]
          rfl
theorem mF_at {r : Nat} (R : mF n T f pl hm) (hr : r ≤ n) : mF n T f pl (jhI hm 110 2 (jz r)) := by
  obtain ⟨r1, r2, -, r5, r6⟩ := R
  have f0 : eFr xm hm (jhI hm 110 2 (jz r)) := xm_I2 (eFr_refl _ _) _
  refine ⟨xTm_m r1 f0, eWd_m r2 f0, ⟨r, hr, rfl⟩, ?_, r6.1, r6.2.1, ?_, ?_⟩
  · rw [jhI_1, if_neg (by omega)]; exact r5
  · rw [jhI_1, if_neg (by omega)]; exact r6.2.2.1
  · rw [jhI_1, if_neg (by omega)]; exact r6.2.2.2
theorem sM_opens6 {x p2 : Int} (R : mL n T e s hm) (O : mO W b 6 C md hm) : ∃ h', fM_qOpens (jz x) (jz p2) hm = some h' ∧ mF n T 4 p2 h' ∧ eFr xm hm h' ∧ h'.1 110 2 = jz s := by
  have fl := sM_failR (p2 := p2) R (f := 4) (by omega)
  have o5 := O.2.2.2.2.1
  refine ⟨_, ?_, fl.1, fl.2, ?_⟩
  · unfold fM_qOpens
    rw [mR_5 R.1, if_pos rfl, o5, if_pos (show jz 6 = 6 from rfl)]
    rfl
  · unfold fM_fail
    rw [mR_5 R.1, if_pos rfl, jhI_1, if_neg (by omega), jhI_1, if_neg (by omega)]
    exact R.2
theorem sFo_opens (R : cR n T e s hc) (ha : 0 ≤ a ∧ a ≤ 6) : (a = 6 → ∃ h', fFo_opens (jz a) hc = (0, h') ∧ cF 4 s h' ∧ eFr x6 hc h') ∧ (a ≠ 6 → fFo_opens (jz a) hc = (1, hc)) := by
  constructor
  · intro h
    have fl := sRd_hereR R (f := 4) (by omega)
    refine ⟨_, ?_, fl.1, fl.2⟩
    unfold fFo_opens
    rw [h, if_neg (by decide)]
    rfl
  · intro h
    unfold fFo_opens
    rw [if_pos (by rw [show (6 : Int32) = jz 6 from rfl, jz_lt (by omega) (by omega) (by omega) (by omega)]; omega)]
theorem pm_s (ha : 0 ≤ a ∧ a < 6) : pm (a + 1) + 3 = pm a := by unfold pm; omega
theorem pm_1 (ha : 0 ≤ a ∧ a ≤ 6) : 1 ≤ pm a := by unfold pm; omega
theorem xc_tr {h1 h2 h3 : jH} (a : eFr (xc o) h1 h2) (b : eFr (xc o) h2 h3) : eFr (xc o) h1 h3 := eFr_trans a b
theorem ja1 (a : Int) : jz a + 1 = jz (a + 1) := by rw [show (1 : Int32) = jz 1 from rfl, jz_add]
theorem xbr_c {x : Int} (hb : b ≤ W.length) (hx : 20 ≤ x ∧ x ≤ 24) : xbr (x :: W) b := Or.inr ⟨x, W, rfl, hx.1, hx.2, by simp only [List.length_cons]; omega⟩
theorem xhd_c {x : Int} (hx : 20 ≤ x ∧ x ≤ 24) : xhd (fun x => ¬ xop x) (x :: W) := fun y r h => by
  have := (List.cons.inj h).1
  unfold xop
  omega
/-- ( SUM ) -/
theorem part_paren {N : Nat} (ih : xSumL dd v n T o md b N (a + 1)) (ha : 0 ≤ a ∧ a < 6) (S : xS dd n T o md b a W e s L C [] hc hm) (h40 : s < n ∧ T s = 40) : ∃ hc', Option.bind (fRd_takesSign 40 hc) (fun z23 => Option.bind (fFo_grp N 3 o (jz a + 1) 0 z23.2) (fun z24 => Option.bind (fRd_wantsSign 41 z24) (fun z25 => some z25))) = some hc' ∧ eFr (xc o) hc hc' ∧ (xBad n T o hc' hm (kP v hm) ∨ xGood dd v n T o md b a W s L (pm a) (fun π _ => π = []) hc' hm (kP v hm)) := by
  obtain ⟨R, O, R', O', rl, hl, hb⟩ := xS_un S
  have me := mR_e R'
  have o8 := O'.2.2.2.2.2.2.2.1
  have hmd := O'.2.2.2.2.2.2.2.2.2.2.2.1
  obtain ⟨hc1, c1, c2, c3⟩ := (sRd_tsign (c := 40) R (by omega) rfl rfl me.2.1).2 h40
  obtain ⟨h1, m1, m2, m3⟩ := l2_eq R' o8 hmd
  rw [if_pos h40] at m3
  have O1 := mO_m O' (xm_2 m2)
  obtain ⟨h2, p1, p2, p3⟩ := (sM_opens (x := 20) (p2 := (s : Int)) m1 O1 (by omega) (by omega)).2 (by omega)
  have L2 := mL_q m1 p3
  have e1 : h2.1 110 2 + 1 = jz ((s + 1 : Nat) : Int) := by rw [L2.2, show (1 : Int32) = jz 1 from rfl, jz_add]; rfl
  have R3 := mR_sign L2 h40.1
  have f3 : eFr xm h2 (jhI h2 110 2 (jz ((s + 1 : Nat) : Int))) := xm_I2 (eFr_refl _ _) _
  have O3 := mO_m p2 f3
  have ks : kP v hm = kP v (jhI h2 110 2 (jz ((s + 1 : Nat) : Int))) := kP_step (by
    rw [m3, show fM_qOpens 20 (jz s) h1 = some h2 from p1, Option.bind_some, e1])
  have fh : eFr xg hm (jhI h2 110 2 (jz ((s + 1 : Nat) : Int))) := eFr_trans (xg_m (xm_2 m2)) (eFr_trans (xg_q p3) (xg_m f3))
  have sg := xSk_ge (n := n) (T := T) (s := s + 1)
  have S3 : xS dd n T o md b (a + 1) (20 :: W) e (xSk n T (s + 1)) L C [] hc1 (jhI h2 110 2 (jz ((s + 1 : Nat) : Int))) := xS_mk c2 (cO_6 O c3) R3 O3 rl (by simp only [List.length_cons]; omega) (by simp only [List.length_cons]; omega)
  obtain ⟨hc2, g1, g2, g3⟩ := ih _ _ _ _ _ _ _ S3 (xbr_c hb (by omega)) (xhd_c (by omega))
  have cl : ∀ z, Option.bind (fRd_takesSign 40 hc) (fun z23 => Option.bind (fFo_grp N 3 o (jz a + 1) 0 z23.2) (fun z24 => Option.bind (fRd_wantsSign 41 z24) (fun z25 => some z25))) = some z ↔ fRd_wantsSign 41 hc2 = some z := by
    intro z
    rw [show fRd_takesSign 40 hc = _ from c1, Option.bind_some]
    dsimp only
    rw [ja1, g1, Option.bind_some]
    cases fRd_wantsSign 41 hc2 <;> exact Iff.rfl
  rcases g3 with ⟨f', pl', h5, b1, b2, b3, b4, b5⟩ | ⟨e5, s5, l, C5, π, h5, d1, d2, ⟨d3, no⟩, d4, d5, d6, d7⟩
  · obtain ⟨hc3, w1, w2, w3⟩ := sRd_wsignF b1 41
    refine ⟨hc3, (cl hc3).mpr w1, eFr_trans (xc_6 c3) (eFr_trans g2 (xc_6 w3)), Or.inl ⟨f', pl', h5, w2, xcnt_6 b2 w3 O.2.2.2.2, ?_, b4, xgF_tr fh b5⟩⟩
    rw [ks]; exact b3
  · obtain ⟨u1, u2, u3, u4, u5, u6, u7⟩ := d2
    have me5 := mR_e u3
    have ws := sRd_wsign (c := 41) u1 (by omega) rfl rfl me5.2.1
    simp only [List.length_cons] at u6
    by_cases h41 : s5 < n ∧ T s5 = 41
    · obtain ⟨hc3, w1, w2, w3⟩ := ws.2 h41
      obtain ⟨h6, k1, k2, k3, k4⟩ := kG_close (v := v) u3 u4 d3 hb (Or.inl rfl) h41 (by omega) (by omega)
      have sg5 := xSk_ge (n := n) (T := T) (s := s5 + 1)
      rw [if_pos rfl, List.append_nil, show a + 1 - 1 = a by omega] at k3
      refine ⟨hc3, (cl hc3).mpr w1, eFr_trans (xc_6 c3) (eFr_trans g2 (xc_6 w3)), Or.inr ⟨e5, _, l, C5 ++ π, [], h6, ?_, xS_mk w2 (cO_6 u2 w3) k2 k3 u5 ?_ hb, rfl, by omega, jseg_m d5 ?_, d6, eFr_trans fh (eFr_trans d7 k4)⟩⟩
      · rw [ks, d1, k1]
      · rw [List.length_append]; omega
      · have := pm_s ha; omega
    · obtain ⟨hc3, w1, w2, w3⟩ := ws.1 h41
      obtain ⟨h6, k1, k2, k3⟩ := kG_bad (v := v) u3 u4 d3 hb (Or.inl rfl) no h41
      refine ⟨hc3, (cl hc3).mpr w1, eFr_trans (xc_6 c3) (eFr_trans g2 (xc_6 w3)), Or.inl ⟨1, s5, h6, w2, xcnt_6 (cO_cnt u2) w3 O.2.2.2.2, ?_, k2, xgF_tr fh (xgF_tr d7 k3)⟩⟩
      rw [ks, d1, k1]
/-- ( SUM , SUM ) behind MIN or MAX -/
theorem part_pair {N : Nat} {x st : Int} (ih : xSumL dd v n T o md b N (a + 1)) (ha : 0 ≤ a ∧ a < 6) (hx : (x = 21 ∧ st = -15) ∨ (x = 22 ∧ st = -16)) (R : cR n T e s hc) (O : cO o L md hc) (R' : mR n T e s hm) (O' : mO (x :: W) b (a + 1) C md hm) (rl : xRel md L C) (hl : C.length + W.length + dd < s) (hb : b ≤ W.length) {s0 : Nat} (hs0 : s0 < s) : ∃ hc', Option.bind (fFo_grp N 3 o (jz a + 1) 0 hc) (fun z7 => Option.bind (fRd_wantsSign 44 z7) (fun z8 => Option.bind (fFo_grp N 3 o (jz a + 1) 0 z8) (fun z9 => Option.bind (fRd_wantsSign 41 z9) (fun z10 => Option.bind (fFo_add o (jz st) z10) (fun z11 => some z11))))) = some hc' ∧ eFr (xc o) hc hc' ∧ (xBad n T o hc' hm (kP v hm) ∨ xGood dd v n T o md b a W s0 L (pm a) (fun π _ => π = []) hc' hm (kP v hm)) := by
  have ho := O.2.2.2.2
  have hxb : 20 ≤ x ∧ x ≤ 24 := by omega
  have sumF : ∀ {f pl : Int} {y : jH}, cF f pl y → fFo_grp N 3 o (jz a + 1) 0 y = some y ∨ N = 0 := by
    intro f pl y hy
    cases N with
    | zero => exact Or.inr rfl
    | succ N =>
      refine Or.inl ?_
      show fFo_readSum_g (fFo_grp N) o (jz a + 1) y = _
      unfold fFo_readSum_g fRd_failed
      obtain ⟨r1, r2, r3, -⟩ := hy
      rw [r3, if_neg (show ¬ jz f = 0 by rw [show (0 : Int32) = jz 0 from rfl, jz_eq (by omega) (by omega) (by omega) (by omega)]; omega), if_neg (by decide)]
  -- on a fault, the rest
  have rest : ∀ {f pl : Int} {y : jH}, cF f pl y → xcnt o y → N ≠ 0 → ∃ hc', Option.bind (fRd_wantsSign 44 y) (fun z8 => Option.bind (fFo_grp N 3 o (jz a + 1) 0 z8) (fun z9 => Option.bind (fRd_wantsSign 41 z9) (fun z10 => Option.bind (fFo_add o (jz st) z10) (fun z11 => some z11)))) = some hc' ∧ cF f pl hc' ∧ xcnt o hc' ∧ eFr (xc o) y hc' := by
    intro f pl y hy hcn hN
    obtain ⟨y1, a1, a2, a3⟩ := sRd_wsignF hy 44
    obtain ⟨y2, b1, b2, b3⟩ := sRd_wsignF a2 41
    obtain ⟨y3, c1, c2, c3⟩ := sFo_addF (xcnt_6 (xcnt_6 hcn a3 ho) b3 ho) (jz st)
    refine ⟨y3, ?_, cF_a b2 c3 ho, c2, eFr_trans (xc_6 a3) (eFr_trans (xc_6 b3) (xc_a c3))⟩
    rw [a1, Option.bind_some, (sumF a2).resolve_right hN, Option.bind_some, b1, Option.bind_some, c1, Option.bind_some]
  have rest2 : ∀ {f pl : Int} {y : jH}, cF f pl y → xcnt o y → N ≠ 0 → ∃ hc', Option.bind (fFo_grp N 3 o (jz a + 1) 0 y) (fun z9 => Option.bind (fRd_wantsSign 41 z9) (fun z10 => Option.bind (fFo_add o (jz st) z10) (fun z11 => some z11))) = some hc' ∧ cF f pl hc' ∧ xcnt o hc' ∧ eFr (xc o) y hc' := by
    intro f pl y hy hcn hN
    obtain ⟨y2, b1, b2, b3⟩ := sRd_wsignF hy 41
    obtain ⟨y3, c1, c2, c3⟩ := sFo_addF (xcnt_6 hcn b3 ho) (jz st)
    refine ⟨y3, ?_, cF_a b2 c3 ho, c2, eFr_trans (xc_6 b3) (xc_a c3)⟩
    rw [(sumF hy).resolve_right hN, Option.bind_some, b1, Option.bind_some, c1, Option.bind_some]
  have rest3 : ∀ {f pl : Int} {y : jH}, cF f pl y → xcnt o y → ∃ hc', Option.bind (fRd_wantsSign 41 y) (fun z10 => Option.bind (fFo_add o (jz st) z10) (fun z11 => some z11)) = some hc' ∧ cF f pl hc' ∧ xcnt o hc' ∧ eFr (xc o) y hc' := by
    intro f pl y hy hcn
    obtain ⟨y2, b1, b2, b3⟩ := sRd_wsignF hy 41
    obtain ⟨y3, c1, c2, c3⟩ := sFo_addF (xcnt_6 hcn b3 ho) (jz st)
    refine ⟨y3, ?_, cF_a b2 c3 ho, c2, eFr_trans (xc_6 b3) (xc_a c3)⟩
    rw [b1, Option.bind_some, c1, Option.bind_some]
  have S3 : xS dd n T o md b (a + 1) (x :: W) e s L C [] hc hm := xS_mk R O R' O' rl (by simp only [List.length_cons]; omega) (by simp only [List.length_cons]; omega)
  obtain ⟨hc2, g1, g2, g3⟩ := ih _ _ _ _ _ _ _ S3 (xbr_c hb hxb) (xhd_c hxb)
  have hN : N ≠ 0 := by
    rintro rfl
    exact absurd g1 (by intro h; cases h)
  rw [ja1, g1, Option.bind_some, ← ja1]
  rcases g3 with ⟨f', pl', h5, b1, b2, b3, b4, b5⟩ | ⟨e5, s5, l, C5, π, h5, d1, d2, ⟨d3, no⟩, d4, d5, d6, d7⟩
  · obtain ⟨hc3, w1, w2, w3, w4⟩ := rest b1 b2 hN
    exact ⟨hc3, w1, eFr_trans g2 w4, Or.inl ⟨f', pl', h5, w2, w3, b3, b4, b5⟩⟩
  obtain ⟨u1, u2, u3, u4, u5, u6, u7⟩ := d2
  have me5 := mR_e u3
  have ws := sRd_wsign (c := 44) u1 (by omega) rfl rfl me5.2.1
  simp only [List.length_cons] at u6
  obtain ⟨kc1, kc2⟩ := kG_comma (v := v) u3 u4 d3 hb (by omega) no (by omega)
  by_cases h44 : s5 < n ∧ T s5 = 44
  · obtain ⟨hc3, w1, w2, w3⟩ := ws.2 h44
    obtain ⟨h6, k1, k2, k3, k4⟩ := kc2 h44
    have sg5 := xSk_ge (n := n) (T := T) (s := s5 + 1)
    have S6 : xS dd n T o md b (a + 1) ((x + 2) :: W) e5 (xSk n T (s5 + 1)) (L ++ l) (C5 ++ π) [] hc3 h6 := xS_mk w2 (cO_6 u2 w3) k2 k3 u5 (by simp only [List.length_cons, List.length_append]; omega) (by simp only [List.length_cons]; omega)
    obtain ⟨hc4, t1, t2, t3⟩ := ih _ _ _ _ _ _ _ S6 (xbr_c hb (by omega)) (xhd_c (by omega))
    rw [show fRd_wantsSign 44 hc2 = _ from w1, Option.bind_some, ja1, t1, Option.bind_some]
    rcases t3 with ⟨f', pl', h7, b1, b2, b3, b4, b5⟩ | ⟨e7, s7, l2, C7, π2, h7, y1, y2, ⟨y3, no2⟩, y4, y5, y6, y7⟩
    · obtain ⟨hc5, z1, z2, z3, z4⟩ := rest3 b1 b2
      refine ⟨hc5, z1, eFr_trans g2 (eFr_trans (xc_6 w3) (eFr_trans t2 z4)), Or.inl ⟨f', pl', h7, z2, z3, ?_, b4, xgF_tr d7 (xgF_tr k4 b5)⟩⟩
      rw [d1, k1, b3]
    obtain ⟨v1, v2, v3, v4, v5, v6, v7⟩ := y2
    have me7 := mR_e v3
    have ws2 := sRd_wsign (c := 41) v1 (by omega) rfl rfl me7.2.1
    simp only [List.length_cons] at v6
    by_cases h41 : s7 < n ∧ T s7 = 41
    · obtain ⟨hc5, z1, z2, z3⟩ := ws2.2 h41
      obtain ⟨h8, q1, q2, q3, q4⟩ := kG_close (v := v) v3 v4 y3 hb (by omega) h41 (by omega) (by omega)
      have O5 := cO_6 v2 z3
      have ll : (L ++ l ++ l2).length < 1600 := by
        have := v5.1
        rw [List.length_append (as := C7)] at this
        omega
      obtain ⟨hc6, j1, j2, j3⟩ := sFo_add (x := st) O5 ll
      have sg7 := xSk_ge (n := n) (T := T) (s := s7 + 1)
      rw [if_neg (show ¬ x + 2 = 20 by omega), show a + 1 - 1 = a by omega] at q3
      have hcode : C7 ++ π2 ++ (if x + 2 = 23 then [5] else [6]) = C7 ++ π2 ++ [jcode st] := by
        rcases hx with ⟨rfl, rfl⟩ | ⟨rfl, rfl⟩ <;> rfl
      rw [hcode] at q3
      have hst : -19 ≤ st ∧ st ≤ -11 := by omega
      have lf : L ++ l ++ l2 ++ [st] = L ++ (l ++ (l2 ++ [st])) := by simp only [List.append_assoc]
      rw [lf] at j2
      refine ⟨hc6, ?_, eFr_trans g2 (eFr_trans (xc_6 w3) (eFr_trans t2 (eFr_trans (xc_6 z3) (xc_a j3)))), Or.inr ⟨e7, _, l ++ (l2 ++ [st]), C7 ++ π2 ++ [jcode st], [], h8, ?_, xS_mk (cR_a z2 j3 ho) j2 q2 q3 ?_ ?_ hb, rfl, by omega, jseg_m (jseg_join d5 y5 hst) ?_, fun z hz => ?_, eFr_trans d7 (eFr_trans k4 (eFr_trans y7 q4))⟩⟩
      · rw [show fRd_wantsSign 41 hc4 = _ from z1, Option.bind_some, j1, Option.bind_some]
      · rw [d1, k1, y1, q1]
      · rw [← lf]
        exact xRel_add v5 (Or.inl rfl)
      · simp only [List.length_append, List.length_singleton]
        omega
      · have := pm_s ha; omega
      · rcases List.mem_append.mp hz with hz | hz
        · exact d6 z hz
        · rcases List.mem_append.mp hz with hz | hz
          · exact y6 z hz
          · have := List.mem_singleton.mp hz
            unfold xst
            intro _
            omega
    · obtain ⟨hc5, z1, z2, z3⟩ := ws2.1 h41
      obtain ⟨h8, q1, q2, q3⟩ := kG_bad (v := v) v3 v4 y3 hb (by omega) no2 h41
      obtain ⟨hc6, j1, j2, j3⟩ := sFo_addF (xcnt_6 (cO_cnt v2) z3 ho) (jz st)
      refine ⟨hc6, ?_, eFr_trans g2 (eFr_trans (xc_6 w3) (eFr_trans t2 (eFr_trans (xc_6 z3) (xc_a j3)))), Or.inl ⟨1, s7, h8, cF_a z2 j3 ho, j2, ?_, q2, xgF_tr d7 (xgF_tr k4 (xgF_tr y7 q3))⟩⟩
      · rw [show fRd_wantsSign 41 hc4 = _ from z1, Option.bind_some, j1, Option.bind_some]
      · rw [d1, k1, y1, q1]
  · obtain ⟨hc3, w1, w2, w3⟩ := ws.1 h44
    obtain ⟨h6, k1, k2, k3⟩ := kc1 h44
    obtain ⟨hc4, z1, z2, z3, z4⟩ := rest2 w2 (xcnt_6 (cO_cnt u2) w3 ho) hN
    rw [show fRd_wantsSign 44 hc2 = _ from w1, Option.bind_some]
    refine ⟨hc4, z1, eFr_trans g2 (eFr_trans (xc_6 w3) z4), Or.inl ⟨1, s5, h6, z2, z3, ?_, k2, xgF_tr d7 k3⟩⟩
    rw [d1, k1]
end XP
