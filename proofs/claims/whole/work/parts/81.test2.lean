/-! a FACT and a TEST at every depth -/
section XR
variable {n : Nat} {T : Nat → Nat} {o : Nat} {a : Int} {W : List Int} {e : Int} {s : Nat} {L C π : List Int} {hc hm : jH} {f pl : Int}
theorem pm_f (ha : 0 ≤ a ∧ a < 6) : pm (a + 1) + 5 ≤ pm a + 3 := by unfold pm; omega
theorem nots_tA (R : mR n T e s hm) (O : mO (12 :: W) 0 a C 1 hm) (ha : -2000 < a) (hC : C.length < 1650) : ∃ h', tA hm = tA h' ∧ mR n T e s h' ∧ mO W 0 (a - 1) (C ++ [12]) 1 h' ∧ eFr xq hm h' := by
  obtain ⟨h', q1, q2, q3⟩ := nots_1 R O (Nat.zero_le _) ha hC
  exact ⟨h', by unfold tA; rw [q1], mR_q R q3, q2, q3⟩
theorem yFact_of {K : Nat} (ha : 0 ≤ a ∧ a ≤ 6) (ihT : a < 6 → yTest n T o K (a + 1)) (ihF : a < 6 → yFact n T o K (a + 1)) (hK : 28 ≤ K) : yFact n T o (K + 1) a := by
  intro W e s L C hc hm S hf
  obtain ⟨R, O, R', O', rl, hl, hb⟩ := xS_un S
  have ho := O.2.2.2.2
  have me := mR_e R'
  show ∃ hc', fFo_readFact_g (fFo_grp K) o (jz a) hc = some hc' ∧ _
  obtain ⟨h1, m1, m2, m3⟩ := tP_eq R'
  have O1 := mO_m O' (xm_2 m2)
  have f1 : eFr xg hm h1 := xg_m (xm_2 m2)
  have sw := sRd_word (i := 21) R (by omega)
  have ss := sRd_sign (c := 91) R (by omega) rfl rfl
  obtain ⟨so1, so2⟩ := sFo_opens R ha
  by_cases y : xHas n T e s (xw 21) = true
  · -- not
    have c0 : s < n := xhas_n y
    have n91 : ¬ (s < n ∧ T s = 91) := fun t => by
      have := xHas_L (xw_ok (i := 21) (by omega)).1 (xw_ok (i := 21) (by omega)).2.2.2 y
      rw [t.2] at this
      exact absurd this (by decide)
    rw [if_neg n91, if_pos y] at m3
    have cl : fFo_readFact_g (fFo_grp K) o (jz a) hc = (if ((fFo_opens (jz a) hc).1) = 0 then some ((fFo_opens (jz a) hc).2) else (Option.bind (fRd_takesWord 1021 ((fFo_opens (jz a) hc).2)) (fun z19 => (Option.bind (fFo_grp K 2 o (jz a + 1) 0 z19.2) (fun z20 => (Option.bind (fFo_add o (-22) z20) (fun z21 => some z21))))))) := by
      unfold fFo_readFact_g
      rw [show fRd_standsWord 1021 hc = _ from sw, if_pos y, if_neg (show ¬ jz 1 = 0 by decide)]
    obtain ⟨op1, op2⟩ := sM_opens (x := 12) (p2 := (s : Int)) m1 O1 (by omega) (by omega)
    by_cases a6 : a = 6
    · obtain ⟨hc1, c1, c2, c3⟩ := so1 a6
      obtain ⟨h2, p1, p2, p3⟩ := op1 a6
      refine ⟨hc1, ?_, xc_6 c3, Or.inl ⟨4, s, h2, c2, xcnt_6 (cO_cnt O) c3 ho, ?_, p2, ygF_tr f1 (ygF_x ⟨xg_m p3, mcnt_m (mO_cnt O1) p3⟩)⟩⟩
      · rw [cl, c1, if_pos rfl]
      · rw [m3, show fM_qOpens 12 (jz s) h1 = _ from p1, Option.bind_some, sM_asksF p2, Option.bind_some, tP_F p2]
    · obtain ⟨h2, p1, p2, p3⟩ := op2 a6
      have L2 := mL_q m1 p3
      obtain ⟨h3, q1, q2, q3⟩ := (sM_asks L2.1 (xMw_xw (i := 6) (by omega))).2 y
      obtain ⟨hc1, a1, a2, a3⟩ := (sRd_tword (i := 21) R (by omega)).2 y
      have sg1 := xRunL_gt c0 (xHas_L (xw_ok (i := 21) (by omega)).1 (xw_ok (i := 21) (by omega)).2.2.2 y)
      have sgk := xSk_ge (n := n) (T := T) (s := xRun n T xL s)
      have k : tP hm = tP h3 := by rw [m3, show fM_qOpens 12 (jz s) h1 = _ from p1, Option.bind_some, show fM_asks 159 h2 = _ from q1, Option.bind_some]
      have fh : eFr xg hm h3 := eFr_trans f1 (eFr_trans (xg_q p3) (xg_m q3))
      have S1 : xS 0 n T o 1 0 (a + 1) (12 :: W) (xRun n T xL s) (xSk n T (xRun n T xL s)) L C [] hc1 h3 := xS_mk a2 (cO_6 O a3) q2 (mO_m p2 q3) rl (by simp only [List.length_cons]; omega) (Nat.zero_le _)
      obtain ⟨hc2, g1, g2, g3⟩ := ihF (by omega) _ _ _ _ _ _ _ S1 (xfb_c hf (by omega))
      have cl2 : ∀ z, fFo_add o (jz (-22)) hc2 = some z → fFo_readFact_g (fFo_grp K) o (jz a) hc = some z := by
        intro z hz
        rw [cl, so2 a6, if_neg (show ¬ (1 : Int32) = 0 by decide), show fRd_takesWord 1021 hc = _ from a1, Option.bind_some]
        dsimp only
        rw [ja1, g1, Option.bind_some, show (-22 : Int32) = jz (-22) from rfl, hz, Option.bind_some]
      rcases g3 with ⟨f', pl', h5, b1, b2, b3, b4, b5⟩ | ⟨e5, s5, l5, C5, π5, h5, d1, d2, d3, d4, d5, d6⟩
      · obtain ⟨hc3, u1, u2, u3⟩ := sFo_addF b2 (jz (-22))
        exact ⟨hc3, cl2 _ u1, eFr_trans (xc_6 a3) (eFr_trans g2 (xc_a u3)), Or.inl ⟨f', pl', h5, cF_a b1 u3 ho, u2, by rw [k, b3], b4, ygF_tr fh b5⟩⟩
      · have d3' : π5 = [] := d3
        subst d3'
        obtain ⟨u1, u2, u3, u4, u5, u6, -⟩ := xS_un d2
        simp only [List.length_cons] at u6
        have me5 := mR_e u3
        have ul : (L ++ l5).length < 1600 := by
          have := u5.1
          omega
        obtain ⟨hc3, t1, t2, t3⟩ := sFo_add (x := -22) u2 ul
        obtain ⟨h6, v1, v2, v3, v4⟩ := nots_tA u3 u4 (by omega) (by omega)
        rw [show a + 1 - 1 = a by omega] at v3
        refine ⟨hc3, cl2 _ t1, eFr_trans (xc_6 a3) (eFr_trans g2 (xc_a t3)), Or.inr ⟨e5, s5, l5 ++ [-22], C5 ++ [12], [], h6, by rw [k, d1, v1], ?_, rfl, by omega, jsgB_m (jsgB_not d5) (by have := pm_f (a := a) (by omega); omega), eFr_trans fh (eFr_trans d6 (xg_q v4))⟩⟩
        rw [← List.append_assoc]
        exact xS_mk (cR_a u1 t3 ho) t2 v2 v3 (xRel_add u5 (Or.inl (show (12 : Int) = jcode (-22) from rfl))) (by rw [List.length_append, List.length_singleton]; omega) (Nat.zero_le _)
  · by_cases c : s < n ∧ T s = 91
    · -- [ TEST ]
      rw [if_pos c] at m3
      have cl : fFo_readFact_g (fFo_grp K) o (jz a) hc = (if ((fFo_opens (jz a) hc).1) = 0 then some ((fFo_opens (jz a) hc).2) else (Option.bind (fRd_takesSign 91 ((fFo_opens (jz a) hc).2)) (fun z14 => (Option.bind (fFo_grp K 0 o (jz a + 1) 0 z14.2) (fun z15 => (Option.bind (fRd_wantsSign 93 z15) (fun z16 => some z16))))))) := by
        unfold fFo_readFact_g
        rw [show fRd_standsWord 1021 hc = _ from sw, if_neg y, if_pos (show jz 0 = 0 from rfl), show fRd_standsSign 91 hc = _ from ss, if_pos c, if_neg (show ¬ jz 1 = 0 by decide)]
      obtain ⟨op1, op2⟩ := sM_opens (x := 25) (p2 := (s : Int)) m1 O1 (by omega) (by omega)
      by_cases a6 : a = 6
      · obtain ⟨hc1, c1, c2, c3⟩ := so1 a6
        obtain ⟨h2, p1, p2, p3, p4⟩ := sM_opens6 (x := 25) (p2 := (s : Int)) m1 (a6 ▸ O1)
        have e1 : h2.1 110 2 + 1 = jz ((s + 1 : Nat) : Int) := by rw [p4, show (1 : Int32) = jz 1 from rfl, jz_add]; rfl
        have p5 := mF_at (r := s + 1) p2 (by omega)
        refine ⟨hc1, ?_, xc_6 c3, Or.inl ⟨4, s, jhI h2 110 2 (jz ((s + 1 : Nat) : Int)), c2, xcnt_6 (cO_cnt O) c3 ho, ?_, p5, ygF_tr f1 (ygF_x ⟨xg_m (xm_I2 p3 _), mcnt_m (mO_cnt O1) (xm_I2 p3 _)⟩)⟩⟩
        · rw [cl, c1, if_pos rfl]
        · rw [m3, show fM_qOpens 25 (jz s) h1 = _ from p1, Option.bind_some, e1, tP_F p5]
      · obtain ⟨h2, p1, p2, p3⟩ := op2 a6
        have L2 := mL_q m1 p3
        have e1 : h2.1 110 2 + 1 = jz ((s + 1 : Nat) : Int) := by rw [L2.2, show (1 : Int32) = jz 1 from rfl, jz_add]; rfl
        have R3 := mR_sign L2 c.1
        have f3 : eFr xm h2 (jhI h2 110 2 (jz ((s + 1 : Nat) : Int))) := xm_I2 (eFr_refl _ _) _
        have O3 := mO_m p2 f3
        obtain ⟨hc1, a1, a2, a3⟩ := (sRd_tsign (c := 91) R (by omega) rfl rfl me.2.1).2 c
        have sgk := xSk_ge (n := n) (T := T) (s := s + 1)
        have k : tP hm = tP (jhI h2 110 2 (jz ((s + 1 : Nat) : Int))) := by rw [m3, show fM_qOpens 25 (jz s) h1 = _ from p1, Option.bind_some, e1]
        have fh : eFr xg hm (jhI h2 110 2 (jz ((s + 1 : Nat) : Int))) := eFr_trans f1 (eFr_trans (xg_q p3) (xg_m f3))
        have S1 : xS 0 n T o 1 0 (a + 1) (25 :: W) e (xSk n T (s + 1)) L C [] hc1 (jhI h2 110 2 (jz ((s + 1 : Nat) : Int))) := xS_mk a2 (cO_6 O a3) R3 O3 rl (by simp only [List.length_cons]; omega) (Nat.zero_le _)
        obtain ⟨hc2, g1, g2, g3⟩ := ihT (by omega) _ _ _ _ _ _ _ S1 (xfb_c hf (by omega)) (fun x r h => by have := (List.cons.inj h).1; omega)
        have cl2 : ∀ z, fRd_wantsSign 93 hc2 = some z → fFo_readFact_g (fFo_grp K) o (jz a) hc = some z := by
          intro z hz
          rw [cl, so2 a6, if_neg (show ¬ (1 : Int32) = 0 by decide), show fRd_takesSign 91 hc = _ from a1, Option.bind_some]
          dsimp only
          rw [ja1, g1, Option.bind_some, hz, Option.bind_some]
        rcases g3 with ⟨f', pl', h5, b1, b2, b3, b4, b5⟩ | ⟨e5, s5, l5, C5, π5, h5, d1, d2, ⟨d31, d32, d33⟩, d4, d5, d6⟩
        · obtain ⟨hc3, u1, u2, u3⟩ := sRd_wsignF b1 93
          exact ⟨hc3, cl2 _ u1, eFr_trans (xc_6 a3) (eFr_trans g2 (xc_6 u3)), Or.inl ⟨f', pl', h5, u2, xcnt_6 b2 u3 ho, by rw [k, b3], b4, ygF_tr fh b5⟩⟩
        · obtain ⟨u1, u2, u3, u4, u5, u6, u7⟩ := d2
          simp only [List.length_cons] at u6
          have me5 := mR_e u3
          have ws := sRd_wsign (c := 93) u1 (by omega) rfl rfl me5.2.1
          by_cases h93 : s5 < n ∧ T s5 = 93
          · obtain ⟨hc3, w1, w2, w3⟩ := ws.2 h93
            obtain ⟨h6, v1, v2, v3, v4⟩ := tG_close u3 u4 d31 rfl h93 (by omega) (by omega)
            rw [show a + 1 - 1 = a by omega] at v3
            have sg5 := xSk_ge (n := n) (T := T) (s := s5 + 1)
            refine ⟨hc3, cl2 _ w1, eFr_trans (xc_6 a3) (eFr_trans g2 (xc_6 w3)), Or.inr ⟨e5, xSk n T (s5 + 1), l5, C5 ++ π5, [], h6, by rw [k, d1, v1], ?_, rfl, by omega, jsgB_m d5 (by have := pm_f (a := a) (by omega); omega), eFr_trans fh (eFr_trans d6 v4)⟩⟩
            exact xS_mk w2 (cO_6 u2 w3) v2 v3 u5 (by rw [List.length_append]; omega) (Nat.zero_le _)
          · obtain ⟨hc3, w1, w2, w3⟩ := ws.1 h93
            obtain ⟨h6, v1, v2, v3⟩ := tG_bad u3 u4 d31 d32 d33 h93
            exact ⟨hc3, cl2 _ w1, eFr_trans (xc_6 a3) (eFr_trans g2 (xc_6 w3)), Or.inl ⟨1, s5, h6, w2, xcnt_6 (cO_cnt u2) w3 ho, by rw [k, d1, v1], v2, ygF_tr fh (ygF_tr d6 (ygF_x v3))⟩⟩
    · rw [if_neg c, if_neg y] at m3
      have cl : fFo_readFact_g (fFo_grp K) o (jz a) hc = (Option.bind (fRd_takesWord 1022 hc) (fun (z5 : Int32 × jH) => (if z5.1 = 0 then (Option.bind (fFo_grp K 3 o (jz a) 0 z5.2) (fun z7 => (Option.bind (fFo_readSign z7) (fun z8 => (Option.bind (fFo_grp K 3 o (jz a) 0 z8.2) (fun z9 => (Option.bind (fFo_add o z8.1 z9) (fun z10 => some z10)))))))) else (Option.bind (fFo_add o 1 z5.2) (fun z11 => some z11))))) := by
        unfold fFo_readFact_g
        rw [show fRd_standsWord 1021 hc = _ from sw, if_neg y, if_pos (show jz 0 = 0 from rfl), show fRd_standsSign 91 hc = _ from ss, if_neg c, if_pos (show jz 0 = 0 from rfl)]
      obtain ⟨tw1, tw2⟩ := sRd_tword (i := 22) R (by omega)
      by_cases y2 : xHas n T e s (xw 22) = true
      · -- all
        have c0 : s < n := xhas_n y2
        obtain ⟨hc1, a1, a2, a3⟩ := tw2 y2
        obtain ⟨h2, q1, q2, q3⟩ := (sM_takes m1.1 (xMw_xw (i := 9) (by omega))).2 y2
        have sg1 := xRunL_gt c0 (xHas_L (xw_ok (i := 22) (by omega)).1 (xw_ok (i := 22) (by omega)).2.2.2 y2)
        have sgk := xSk_ge (n := n) (T := T) (s := xRun n T xL s)
        have me2 := mR_e q2
        obtain ⟨h3, p1, p2, p3⟩ := sM_code (c := 13) (mO_m O1 q3) (by omega)
        have ul : L.length < 1600 := by have := rl.1; omega
        obtain ⟨hc2, t1, t2, t3⟩ := sFo_add (x := 1) (cO_6 O a3) ul
        refine ⟨hc2, ?_, eFr_trans (xc_6 a3) (xc_a t3), Or.inr ⟨_, _, [1], C ++ [13], [], h3, ?_, xS_mk (cR_a a2 t3 ho) t2 (mR_q q2 p3) p2 (xRel_add rl (Or.inr ⟨rfl, rfl, rfl⟩)) ?_ (Nat.zero_le _), rfl, by omega, jsgB_m jsgB_1 (by omega), eFr_trans f1 (eFr_trans (xg_m q3) (xg_q p3))⟩⟩
        · rw [cl, show fRd_takesWord 1022 hc = _ from a1, Option.bind_some, if_neg (show ¬ (1 : Int32) = 0 by decide)]
          dsimp only
          rw [show (1 : Int32) = jz 1 from rfl, t1, Option.bind_some]
        · rw [m3]
          unfold fM_qFact
          rw [show fM_takes 162 h1 = _ from q1, Option.bind_some, if_neg (show ¬ (1 : Int32) = 0 by decide)]
          dsimp only
          rw [show (13 : Int32) = jz 13 from rfl, p1, Option.bind_some, Option.bind_some]
        · rw [List.length_append, List.length_singleton]; omega
      · have S1 : xS 0 n T o 1 0 a W e s L C [] hc h1 := xS_mk R O m1.1 O1 rl hl (Nat.zero_le _)
        obtain ⟨hc1, g1, g2, g3⟩ := fact_sums hK ha S1 hf m1 y2
        refine ⟨hc1, ?_, g2, ?_⟩
        · rw [cl, show fRd_takesWord 1022 hc = _ from tw1 y2, Option.bind_some, if_pos rfl]
          exact g1
        · rw [m3]
          rcases g3 with ⟨f', pl', h5, b1, b2, b3, b4, b5⟩ | ⟨e5, s5, l5, C5, π5, h5, d1, d2, d3, d4, d5, d6⟩
          · exact Or.inl ⟨f', pl', h5, b1, b2, b3, b4, ygF_tr f1 b5⟩
          · exact Or.inr ⟨e5, s5, l5, C5, π5, h5, d1, d2, d3, d4, d5, eFr_trans f1 d6⟩
theorem yTest_all : ∀ m : Nat, m ≤ 6 → ∀ K : Nat, 3 * m + 29 ≤ K → yFact n T o K (6 - (m : Int)) ∧ yTest n T o (K + 2) (6 - (m : Int)) := by
  intro m
  induction m with
  | zero =>
    intro _ K hK
    obtain ⟨K', rfl⟩ : ∃ K', K = K' + 1 := ⟨K - 1, by omega⟩
    have p : ∀ K'', 28 ≤ K'' → yFact n T o (K'' + 1) (6 - ((0 : Nat) : Int)) := fun K'' hK'' => yFact_of (by omega) (fun h => by omega) (fun h => by omega) hK''
    exact ⟨p K' (by omega), yTest_of (yBoth_of (p K' (by omega)) (by omega)) (by omega)⟩
  | succ m ih =>
    intro hm6 K hK
    obtain ⟨K', rfl⟩ : ∃ K', K = K' + 3 := ⟨K - 3, by omega⟩
    have e1 : 6 - ((m + 1 : Nat) : Int) + 1 = 6 - (m : Int) := by omega
    have p : yFact n T o (K' + 3) (6 - ((m + 1 : Nat) : Int)) := by
      refine yFact_of (K := K' + 2) (by omega) (fun _ => ?_) (fun _ => ?_) (by omega)
      · rw [e1]
        exact (ih (by omega) K' (by omega)).2
      · rw [e1]
        exact (ih (by omega) (K' + 2) (by omega)).1
    exact ⟨p, yTest_of (yBoth_of p (by omega)) (by omega)⟩
end XR
