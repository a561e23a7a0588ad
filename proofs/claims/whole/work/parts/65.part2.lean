/-! a PART, whole -/
theorem xfa_t : (List.range 7).all (fun q => decide (0 ≤ xfa q ∧ xfa q ≤ 6 ∧ jcode (-1 - xfa q) = 40 + (q : Int) ∧ (q < 4 → 3 ≤ xfa q))) = true := by decide +kernel
theorem xfa_ok {q : Nat} (hq : q < 7) : 0 ≤ xfa q ∧ xfa q ≤ 6 ∧ jcode (-1 - xfa q) = 40 + (q : Int) ∧ (q < 4 → 3 ≤ xfa q) := of_decide_eq_true (List.all_eq_true.mp xfa_t q (List.mem_range.mpr hq))
section XV
variable {dd : Nat} {v : Int32} {n : Nat} {T : Nat → Nat} {o : Nat} {md : Int} {b : Nat} {a : Int} {W : List Int} {e : Int} {s : Nat} {L C π : List Int} {hc hm : jH} {f pl : Int}
/-- MIN or MAX asks a bracket -/
theorem word_open {x : Int} {z : Int32} (hx : (x = 21 ∧ z = 1) ∨ (x = 22 ∧ z = 0)) (R : mR n T e s hm) (O : mO W b a C md hm) (hW : W.length < 1650) (hCW : C.length + W.length ≤ 1640 := by omega) : ∃ h5, fM_qPartTold_l2_j101 1 z hm = some (.inl (1, h5)) ∧ eFr xg hm h5 ∧ (¬ (s < n ∧ T s = 40) → mF n T 1 s h5) ∧ ((s < n ∧ T s = 40) → a = 6 → mF n T 4 s h5) ∧ ((s < n ∧ T s = 40) → a ≠ 6 → mR n T e (xSk n T (s + 1)) h5 ∧ mO (x :: W) b (a + 1) C md h5) ∧ mcnt h5 := by
  have me := mR_e R
  obtain ⟨h1, q1, q2, q3⟩ := sM_look R
  have O1 := mO_m O (xm_2 q3)
  unfold fM_qPartTold_l2_j101
  rw [q1, Option.bind_some]
  dsimp only
  by_cases c : s < n ∧ T s = 40
  · rw [if_pos ((xCh_40 R.1).mpr c), q2.2]
    have ns : ¬ jz (s : Int) = -1 := by rw [show (-1 : Int32) = jz (-1) from rfl, jz_eq (by omega) (by omega) (by omega) (by omega)]; omega
    have j : fM_qPartTold_l2_j118 1 z (jz s) h1 = Option.bind (fM_qOpens (jz x) (jz s) h1) (fun z22 => fM_qPartTold_l2_j144 1 z22) := by
      unfold fM_qPartTold_l2_j118
      rw [if_neg ns]
      rcases hx with ⟨rfl, rfl⟩ | ⟨rfl, rfl⟩
      · rw [if_neg (show ¬ (1 : Int32) = 0 by decide)]; rfl
      · rw [if_pos rfl]; rfl
    rw [j]
    by_cases ha : a = 6
    · subst ha
      obtain ⟨h2, p1, p2, p3, -⟩ := sM_opens6 (x := x) (p2 := (s : Int)) q2 O1
      refine ⟨h2, ?_, xg_m (eFr_trans (xm_2 q3) p3), fun t => absurd c t, fun _ _ => p2, fun _ t => absurd rfl t, mcnt_m (mO_cnt O1) p3⟩
      rw [p1, Option.bind_some]
      unfold fM_qPartTold_l2_j144
      rw [sM_asignF p2, Option.bind_some]
      rfl
    · obtain ⟨h2, p1, p2, p3⟩ := (sM_opens (x := x) (p2 := (s : Int)) q2 O1 (by omega) hW).2 ha
      have L2 := mL_q q2 p3
      obtain ⟨h3, r1, r2, r3⟩ := (sM_asign (c := 40) L2.1 (by omega)).2 c
      refine ⟨h3, ?_, eFr_trans (xg_m (xm_2 q3)) (eFr_trans (xg_q p3) (xg_m r3)), fun t => absurd c t, fun _ t => absurd t ha, fun _ _ => ⟨r2, mO_m p2 r3⟩, mO_cnt (mO_m p2 r3)⟩
      rw [p1, Option.bind_some]
      unfold fM_qPartTold_l2_j144
      rw [show fM_asksSign 40 h2 = _ from r1, Option.bind_some]
      rfl
  · rw [if_neg (fun t => c ((xCh_40 R.1).mp t))]
    obtain ⟨h3, r1, r2, r3⟩ := (sM_asign (c := 40) q2.1 (by omega)).1 c
    refine ⟨h3, ?_, xg_m (eFr_trans (xm_2 q3) r3), fun _ => r2, fun t => absurd t c, fun t => absurd t c, mcnt_m (mO_cnt O1) r3⟩
    unfold fM_qPartTold_l2_j118
    rw [if_pos rfl]
    unfold fM_qPartTold_l2_j144
    rw [show fM_asksSign 40 h1 = _ from r1, Option.bind_some]
    rfl
/-- MIN or MAX, from the bracket on -/
theorem part_word {N : Nat} {x st : Int} (ih : a < 6 → xSumL dd v n T o md b N (a + 1)) (ha : 0 ≤ a ∧ a ≤ 6) (hx : (x = 21 ∧ st = -15) ∨ (x = 22 ∧ st = -16)) (R : cR n T e s hc) (O : cO o L md hc) {h5 : jH} (k : kP v hm = kP v h5) (hf : eFr xg hm h5) (hcn : mcnt h5) (F1 : ¬ (s < n ∧ T s = 40) → mF n T 1 s h5) (F2 : (s < n ∧ T s = 40) → a = 6 → mF n T 4 s h5) (F3 : (s < n ∧ T s = 40) → a ≠ 6 → mR n T e (xSk n T (s + 1)) h5 ∧ mO (x :: W) b (a + 1) C md h5) (rl : xRel md L C) (hl : C.length + W.length + dd ≤ s) (he : e ≤ s) (hb : b ≤ W.length) {s0 : Nat} (hs0 : s0 < s) : ∃ hc', fFo_readPair_g (fFo_grp N) o (jz a) (jz st) hc = some hc' ∧ eFr (xc o) hc hc' ∧ (xBad n T o hc' hm (kP v hm) ∨ xGood dd v n T o md b a W s0 L (pm a) (fun π _ => π = []) hc' hm (kP v hm)) := by
  have ho := O.2.2.2.2
  have sg : fRd_standsSign 40 hc = if s < n ∧ T s = 40 then jz 1 else jz 0 := sRd_sign (c := 40) R (by omega) rfl rfl
  unfold fFo_readPair_g
  rw [sg]
  by_cases c : s < n ∧ T s = 40
  · rw [if_pos c, if_neg (show ¬ jz 1 = 0 by decide)]
    obtain ⟨op1, op2⟩ := sFo_opens R ha
    by_cases h6 : a = 6
    · obtain ⟨y, y1, y2, y3⟩ := op1 h6
      have mf := F2 c h6
      rw [y1, if_pos rfl]
      refine ⟨y, rfl, xc_6 y3, Or.inl ⟨4, s, h5, y2, xcnt_6 (cO_cnt O) y3 ho, ?_, mf, hf, hcn⟩⟩
      rw [k, kP_F mf]
    · rw [op2 h6, if_neg (show ¬ (1 : Int32) = 0 by decide)]
      obtain ⟨R5, O5⟩ := F3 c h6
      obtain ⟨hc1, c1, c2, c3⟩ := (sRd_tsign (c := 40) R (by omega) rfl rfl he).2 c
      have sgk := xSk_ge (n := n) (T := T) (s := s + 1)
      obtain ⟨hc', g1, g2, g3⟩ := part_pair (s0 := s0) (ih (by omega)) (by omega) hx c2 (cO_6 O c3) R5 O5 rl (by omega) hb (by omega)
      dsimp only
      rw [show fRd_takesSign 40 hc = _ from c1, Option.bind_some]
      refine ⟨hc', g1, eFr_trans (xc_6 c3) g2, ?_⟩
      rcases g3 with ⟨f', pl', h7, b1, b2, b3, b4, b5⟩ | ⟨e7, s7, l, C7, π, h7, d1, d2, d3, d4, d5, d6, d7⟩
      · exact Or.inl ⟨f', pl', h7, b1, b2, by rw [k, b3], b4, xgF_tr hf b5⟩
      · exact Or.inr ⟨e7, s7, l, C7, π, h7, by rw [k, d1], d2, d3, d4, d5, d6, eFr_trans hf d7⟩
  · rw [if_neg c, if_pos (show jz 0 = 0 from rfl)]
    have fl := sRd_hereR R (f := 1) (by omega)
    have mf := F1 c
    refine ⟨_, rfl, xc_6 fl.2, Or.inl ⟨1, s, h5, fl.1, xcnt_6 (cO_cnt O) fl.2 ho, ?_, mf, hf, hcn⟩⟩
    rw [k, kP_F mf]
theorem xL_no (hn : ¬ (s < n ∧ xL (T s) = true)) {i : Nat} (hi : i < 31) : ¬ xHas n T e s (xw i) = true := by
  obtain ⟨w1, w2, w3, w4⟩ := xw_ok hi
  intro y
  exact hn ⟨(xHas_iff.mp y).1.1, xHas_L w1 w4 y⟩
theorem xQw_no (hn : ¬ (s < n ∧ xL (T s) = true)) : xQw n T e s = -1 := by
  have b := xQw_b (n := n) (T := T) (e := e) (s := s)
  by_cases c : xQw n T e s = -1
  · exact c
  · exfalso
    obtain ⟨q, hq⟩ : ∃ q : Nat, xQw n T e s = q := ⟨(xQw n T e s).toNat, by omega⟩
    have hq7 : q < 8 := by omega
    exact xL_no hn (xMw_qw hq7).1 ((xQw_ok q hq7).mp hq)
theorem xPart_of {K : Nat} (ha : 0 ≤ a ∧ a ≤ 6) (ih : a < 6 → xSumL dd v n T o md b (K + 1) (a + 1) ∧ xSumL dd v n T o md b K (a + 1) ∧ xPartL dd v n T o md b (K + 1) (a + 1)) : xPartL dd v n T o md b (K + 2) a := by
  intro W e s L C hc hm S
  obtain ⟨R, O, R', O', rl, hl, hb⟩ := xS_un S
  have me := mR_e R'
  have ho := O.2.2.2.2
  have o8 := O'.2.2.2.2.2.2.2.1
  have hmd := O'.2.2.2.2.2.2.2.2.2.2.2.1
  obtain ⟨h1, m1, m2, m3⟩ := l2_eq R' o8 hmd
  have O1 := mO_m O' (xm_2 m2)
  have o81 := O1.2.2.2.2.2.2.2.1
  have ll : L.length ≤ s := by have := rl.1; omega
  show ∃ hc', fFo_readPart_g (fFo_grp (K + 1)) o (jz a) hc = some hc' ∧ _
  obtain ⟨sn1, sn2⟩ := sRd_standsN R
  have sg : fRd_standsSign 40 hc = if s < n ∧ T s = 40 then jz 1 else jz 0 := sRd_sign (c := 40) R (by omega) rfl rfl
  -- no bracket, no word: a number, or one of the facts
  have w0 : ∃ w : Int, fM_qWordOf 0 7 h1 = some (jz w, h1) ∧ ((w = xQw n T e s ∧ 0 ≤ xQw n T e s ∧ xQw n T e s < 7 ∧ (md = 1 ∨ xQw n T e s < 4)) ∨ (w = -1 ∧ ¬ (0 ≤ xQw n T e s ∧ xQw n T e s < 7 ∧ (md = 1 ∨ xQw n T e s < 4)))) := by
    refine ⟨_, sM_qWordOf0 (lo := 0) (hi := 7) m1 o81 hmd (by omega) (by omega), ?_⟩
    by_cases c : 0 ≤ xQw n T e s ∧ xQw n T e s < 7 ∧ (md = 1 ∨ xQw n T e s < 4)
    · exact Or.inl ⟨if_pos c, c⟩
    · exact Or.inr ⟨if_neg c, c⟩
  obtain ⟨w, qw, hw⟩ := w0
  have kt : kT h1 = if jz w = -1 then fM_qPartTold_j212 (jz w) h1 else Option.bind (fM_qAsksWord (jz w) h1) (fun z31 => fM_qPartTold_j212 (jz w) z31) := by
    unfold kT
    rw [mR_5 m1.1, if_pos rfl, qw, Option.bind_some]
  by_cases cN : xNum n T e s
  · -- a number
    have nl : ¬ (s < n ∧ xL (T s) = true) := fun t => by
      have := xL_D t.2
      rw [cN.2.1] at this
      cases this
    have n40 : ¬ (s < n ∧ T s = 40) := fun t => by
      have := cN.2.1
      rw [t.2] at this
      exact absurd this (by decide)
    rw [if_neg n40, if_neg (xL_no nl (by omega)), if_neg (xL_no nl (by omega)), if_neg (fun t => xL_no nl (by omega) t.1)] at m3
    have kp := kP_out (v := v) m3
    have qn := xQw_no (e := e) nl
    have hw1 : w = -1 := by
      rcases hw with ⟨-, h, -⟩ | ⟨h, -⟩
      · omega
      · exact h
    rw [kt, hw1, if_pos (show jz (-1) = -1 from rfl)] at kp
    unfold fM_qPartTold_j212 at kp
    rw [if_pos (show jz (-1) = -1 from rfl)] at kp
    have cs : fFo_readPart_g (fFo_grp (K + 1)) o (jz a) hc = Option.bind (fRd_wantsNumber 9999 hc) (fun z26 => Option.bind (fFo_add o z26.1 z26.2) (fun z27 => some z27)) := by
      unfold fFo_readPart_g
      rw [sn1 cN, if_neg (show ¬ (1 : Int32) = 0 by decide)]
    rw [cs]
    obtain ⟨-, rn1, rn2, rn3⟩ := sRd_number (m := 9999) R (by omega)
    obtain ⟨-, mn1, mn2, mn3⟩ := sM_number (m := 9999) m1.1 (by omega)
    have nv : xNv n T s ≤ 9999 := xNm_9999 (fun i hi => xRun_in (n := n) (s := s) (by omega) (by omega))
    by_cases c4 : 4 < xRun n T xD s - s
    · obtain ⟨hc1, a1, a2, a3⟩ := rn1 cN c4
      obtain ⟨h2, b1, b2, b3⟩ := mn1 cN c4
      obtain ⟨h3, d1, d2, d3, d4⟩ := j237_F b2 (mO_m O1 b3) (1000 + 0)
      obtain ⟨hc2, g1, g2, g3⟩ := sFo_addF (xcnt_6 (cO_cnt O) a3 ho) 0
      refine ⟨hc2, ?_, eFr_trans (xc_6 a3) (xc_a g3), Or.inl ⟨1, _, h3, cF_a a2 g3 ho, g2, ?_, d2, eFr_trans (xg_m (eFr_trans (xm_2 m2) b3)) (xg_q d3), d4⟩⟩
      · rw [show fRd_wantsNumber 9999 hc = _ from a1, Option.bind_some]
        dsimp only
        rw [g1, Option.bind_some]
      · rw [kp, show fM_number 0 9999 h1 = _ from b1, Option.bind_some]
        dsimp only
        rw [d1, Option.bind_some]
        unfold kB
        rw [if_neg (mF_5 d2), k0]
    · obtain ⟨hc1, a1, a2, a3⟩ := rn3 cN c4 (by omega)
      obtain ⟨h2, b1, b2, b3⟩ := mn3 cN c4 (by omega)
      have c00 := cN.1
      have rg : s < xRun n T xD s := by
        rw [xRun_go cN.1 cN.2.1]
        have := xRun_ge (n := n) (T := T) (P := xD) (s := s + 1)
        omega
      have sgk := xSk_ge (n := n) (T := T) (s := xRun n T xD s)
      obtain ⟨h3, d1, d2, d3, d4⟩ := j237_k (v := v) (c := 1000 + (xNv n T s : Int)) b2 (mO_m O1 b3) (by omega) (by omega)
      obtain ⟨hc2, g1, g2, g3⟩ := sFo_add (x := (xNv n T s : Int)) (cO_6 O a3) (by omega)
      refine ⟨hc2, ?_, eFr_trans (xc_6 a3) (xc_a g3), Or.inr ⟨_, _, [(xNv n T s : Int)], _, [], h3, ?_, xS_mk (cR_a a2 g3 ho) g2 d2 d3 (xRel_add rl ?_) ?_ hb, rfl, by omega, jseg_m (jseg_num (by omega)) (pm_1 ha), fun z hz => ?_, eFr_trans (xg_m (eFr_trans (xm_2 m2) b3)) (xg_q d4)⟩⟩
      · rw [show fRd_wantsNumber 9999 hc = _ from a1, Option.bind_some]
        dsimp only
        rw [g1, Option.bind_some]
      · rw [kp, show fM_number 0 9999 h1 = _ from b1, Option.bind_some]
        dsimp only
        rw [show (1000 : Int32) = jz 1000 from rfl, jz_add]
        exact d1
      · refine Or.inl ?_
        unfold jcode
        rw [if_pos (by omega)]
      · rw [List.length_append, List.length_singleton]; omega
      · have := List.mem_singleton.mp hz
        unfold xst
        intro _
        omega
  · -- no number
    have s0 := sn2 cN
    by_cases c40 : s < n ∧ T s = 40
    · -- a bracket
      rw [if_pos c40] at m3 sg
      have cs : fFo_readPart_g (fFo_grp (K + 1)) o (jz a) hc = if (fFo_opens (jz a) hc).1 = 0 then some (fFo_opens (jz a) hc).2 else Option.bind (fRd_takesSign 40 (fFo_opens (jz a) hc).2) (fun z23 => Option.bind (fFo_grp (K + 1) 3 o (jz a + 1) 0 z23.2) (fun z24 => Option.bind (fRd_wantsSign 41 z24) (fun z25 => some z25))) := by
        unfold fFo_readPart_g
        rw [s0, if_pos rfl, sg, if_neg (show ¬ jz 1 = 0 by decide)]
      rw [cs]
      obtain ⟨op1, op2⟩ := sFo_opens R ha
      by_cases h6 : a = 6
      · obtain ⟨y, y1, y2, y3⟩ := op1 h6
        rw [h6] at O1
        obtain ⟨h2, p1, p2, p3, p4⟩ := sM_opens6 (x := 20) (p2 := (s : Int)) m1 O1
        have e1 : h2.1 110 2 + 1 = jz ((s + 1 : Nat) : Int) := by rw [p4, show (1 : Int32) = jz 1 from rfl, jz_add]; rfl
        have p5 := mF_at (r := s + 1) p2 (by omega)
        have ks : kP v hm = kP v (jhI h2 110 2 (jz ((s + 1 : Nat) : Int))) := kP_step (by
          rw [m3, show fM_qOpens 20 (jz s) h1 = some h2 from p1, Option.bind_some, e1])
        rw [y1, if_pos rfl]
        refine ⟨y, rfl, xc_6 y3, Or.inl ⟨4, s, _, y2, xcnt_6 (cO_cnt O) y3 ho, ?_, p5, xg_m (eFr_trans (xm_2 m2) (xm_I2 p3 _)), mcnt_m (mO_cnt O1) (xm_I2 p3 _)⟩⟩
        rw [ks, kP_F p5]
      · rw [op2 h6, if_neg (show ¬ (1 : Int32) = 0 by decide)]
        exact part_paren (ih (by omega)).1 (by omega) S c40
    · rw [if_neg c40] at m3 sg
      obtain ⟨tm1, tm2⟩ := sRd_tword (i := 23) R (by omega)
      obtain ⟨tx1, tx2⟩ := sRd_tword (i := 24) R (by omega)
      by_cases cmin : xHas n T e s (xw 23) = true
      · -- min
        rw [if_pos cmin] at m3
        obtain ⟨hc1, a1, a2, a3⟩ := tm2 cmin
        have lt := xL_no (n := n) (T := T) (e := e) (s := s) (i := 23)
        have cl : s < n ∧ xL (T s) = true := Classical.byContradiction (fun t => lt t (by omega) cmin)
        have rg := xRunL_gt cl.1 cl.2
        have sgk := xSk_ge (n := n) (T := T) (s := xRun n T xL s)
        have cs : fFo_readPart_g (fFo_grp (K + 1)) o (jz a) hc = Option.bind (fFo_grp (K + 1) 6 o (jz a) (-15) hc1) (fun z20 => some z20) := by
          unfold fFo_readPart_g
          rw [s0, if_pos rfl, sg, if_pos (show jz 0 = 0 from rfl), show fRd_takesWord 1023 hc = _ from a1, Option.bind_some, if_neg (show ¬ (1 : Int32) = 0 by decide)]
        rw [cs, Option.bind_fun_some]
        obtain ⟨h2, p1, p2, p3⟩ := (sM_takes m1.1 (xMw_xw (i := 10) (by omega))).2 cmin
        obtain ⟨h5, j1, j2, j3, j4, j5, j6⟩ := word_open (x := 21) (z := 1) (Or.inl ⟨rfl, rfl⟩) p2 (mO_m O1 p3) (by omega)
        have ks : kP v hm = kP v h5 := kP_step (by
          rw [m3]
          unfold fM_qPartTold_l2_j78
          rw [show fM_takes 163 h1 = _ from p1, Option.bind_some, if_neg (show ¬ (1 : Int32) = 0 by decide)]
          exact j1)
        obtain ⟨hc', g1, g2, g3⟩ := part_word (N := K) (x := 21) (st := -15) (s0 := s) (fun h => (ih h).2.1) ha (Or.inl ⟨rfl, rfl⟩) a2 (cO_6 O a3) ks (eFr_trans (xg_m (eFr_trans (xm_2 m2) p3)) j2) j6 j3 j4 j5 rl (by omega) (by omega) hb (by omega)
        exact ⟨hc', g1, eFr_trans (xc_6 a3) g2, g3⟩
      · rw [if_neg cmin] at m3
        by_cases cmax : xHas n T e s (xw 24) = true
        · -- max
          rw [if_pos cmax] at m3
          obtain ⟨hc1, a1, a2, a3⟩ := tx2 cmax
          have lt := xL_no (n := n) (T := T) (e := e) (s := s) (i := 24)
          have cl : s < n ∧ xL (T s) = true := Classical.byContradiction (fun t => lt t (by omega) cmax)
          have rg := xRunL_gt cl.1 cl.2
          have sgk := xSk_ge (n := n) (T := T) (s := xRun n T xL s)
          have cs : fFo_readPart_g (fFo_grp (K + 1)) o (jz a) hc = Option.bind (fFo_grp (K + 1) 6 o (jz a) (-16) hc1) (fun z20 => some z20) := by
            unfold fFo_readPart_g
            rw [s0, if_pos rfl, sg, if_pos (show jz 0 = 0 from rfl), show fRd_takesWord 1023 hc = _ from tm1 cmin, Option.bind_some, if_pos rfl]
            dsimp only
            rw [show fRd_takesWord 1024 hc = _ from a1, Option.bind_some, if_neg (show ¬ (1 : Int32) = 0 by decide)]
          rw [cs, Option.bind_fun_some]
          obtain ⟨h2, p1, p2, p3⟩ := (sM_takes m1.1 (xMw_xw (i := 10) (by omega))).1 cmin
          obtain ⟨h3, r1, r2, r3⟩ := (sM_asks p2.1 (xMw_xw (i := 11) (by omega))).2 cmax
          obtain ⟨h5, j1, j2, j3, j4, j5, j6⟩ := word_open (x := 22) (z := 0) (Or.inr ⟨rfl, rfl⟩) r2 (mO_m (mO_m O1 p3) r3) (by omega)
          have ks : kP v hm = kP v h5 := kP_step (by
            rw [m3]
            unfold fM_qPartTold_l2_j78
            rw [show fM_takes 163 h1 = _ from p1, Option.bind_some, if_pos rfl]
            dsimp only
            rw [show fM_asks 164 h2 = _ from r1, Option.bind_some]
            exact j1)
          obtain ⟨hc', g1, g2, g3⟩ := part_word (N := K) (x := 22) (st := -16) (s0 := s) (fun h => (ih h).2.1) ha (Or.inr ⟨rfl, rfl⟩) a2 (cO_6 O a3) ks (eFr_trans (xg_m (eFr_trans (xm_2 m2) (eFr_trans p3 r3))) j2) j6 j3 j4 j5 rl (by omega) (by omega) hb (by omega)
          exact ⟨hc', g1, eFr_trans (xc_6 a3) g2, g3⟩
        · rw [if_neg cmax] at m3
          have cs0 : fFo_readPart_g (fFo_grp (K + 1)) o (jz a) hc = if hc.1 o 3 = 0 then fFo_readPart_g_j154 (fFo_grp (K + 1)) o hc else if fRd_standsWord 1009 hc = 0 then fFo_readPart_g_j154 (fFo_grp (K + 1)) o hc else if (fFo_opens (jz a) hc).1 = 0 then some (fFo_opens (jz a) hc).2 else Option.bind (fRd_takesWord 1009 (fFo_opens (jz a) hc).2) (fun z16 => Option.bind (fFo_grp (K + 1) 5 o (jz a + 1) 0 z16.2) (fun z17 => Option.bind (fFo_add o (-23) z17) (fun z18 => some z18))) := by
            unfold fFo_readPart_g
            rw [s0, if_pos rfl, sg, if_pos (show jz 0 = 0 from rfl), show fRd_takesWord 1023 hc = _ from tm1 cmin, Option.bind_some, if_pos rfl]
            dsimp only
            rw [show fRd_takesWord 1024 hc = _ from tx1 cmax, Option.bind_some, if_pos rfl]
          have sw : fRd_standsWord 1009 hc = if xHas n T e s (xw 9) = true then jz 1 else jz 0 := sRd_word (i := 9) R (by omega)
          by_cases cp : xHas n T e s (xw 9) = true ∧ md = 1
          · -- pulls
            rw [if_pos cp] at m3
            have cs : fFo_readPart_g (fFo_grp (K + 1)) o (jz a) hc = if (fFo_opens (jz a) hc).1 = 0 then some (fFo_opens (jz a) hc).2 else Option.bind (fRd_takesWord 1009 (fFo_opens (jz a) hc).2) (fun z16 => Option.bind (fFo_grp (K + 1) 5 o (jz a + 1) 0 z16.2) (fun z17 => Option.bind (fFo_add o (-23) z17) (fun z18 => some z18))) := by
              rw [cs0, O.2.2.1, cp.2, if_neg (show ¬ jz 1 = 0 by decide), sw, if_pos cp.1, if_neg (show ¬ jz 1 = 0 by decide)]
            rw [cs]
            obtain ⟨op1, op2⟩ := sFo_opens R ha
            by_cases h6 : a = 6
            · obtain ⟨y, y1, y2, y3⟩ := op1 h6
              rw [h6] at O1
              obtain ⟨h2, p1, p2, p3, p4⟩ := sM_opens6 (x := 60) (p2 := (s : Int)) m1 O1
              have ks : kP v hm = kP v h2 := kP_step (by
                rw [m3, show fM_qOpens 60 (jz s) h1 = some h2 from p1, Option.bind_some]
                unfold fM_qAsksWord
                rw [if_neg (show ¬ (7 : Int32) = 0 by decide), if_neg (show ¬ (7 : Int32) = 1 by decide), if_neg (show ¬ (7 : Int32) = 2 by decide), if_neg (show ¬ (7 : Int32) = 3 by decide), if_neg (show ¬ (7 : Int32) = 4 by decide), if_neg (show ¬ (7 : Int32) = 5 by decide), if_neg (show ¬ (7 : Int32) = 6 by decide), sM_asksF p2]
                rfl)
              rw [y1, if_pos rfl]
              refine ⟨y, rfl, xc_6 y3, Or.inl ⟨4, s, h2, y2, xcnt_6 (cO_cnt O) y3 ho, ?_, p2, xg_m (eFr_trans (xm_2 m2) p3), mcnt_m (mO_cnt O1) p3⟩⟩
              rw [ks, kP_F p2]
            · rw [op2 h6, if_neg (show ¬ (1 : Int32) = 0 by decide)]
              dsimp only
              obtain ⟨h2, p1, p2, p3⟩ := (sM_opens (x := 60) (p2 := (s : Int)) m1 O1 (by omega) (by omega)).2 h6
              have L2 := mL_q m1 p3
              obtain ⟨h3, r1, r2, r3⟩ := sM_qAsksWord (q := 7) L2.1 (by omega) cp.1
              have ks : kP v hm = kP v h3 := kP_step (by
                rw [m3, show fM_qOpens 60 (jz s) h1 = some h2 from p1, Option.bind_some, show fM_qAsksWord 7 h2 = some h3 from r1, Option.bind_some])
              have f3 : eFr xg hm h3 := eFr_trans (xg_m (xm_2 m2)) (eFr_trans (xg_q p3) (xg_m r3))
              obtain ⟨hc1, a1, a2, a3⟩ := (sRd_tword (i := 9) R (by omega)).2 cp.1
              have lt := xL_no (n := n) (T := T) (e := e) (s := s) (i := 9)
              have cl : s < n ∧ xL (T s) = true := Classical.byContradiction (fun t => lt t (by omega) cp.1)
              have rg := xRunL_gt cl.1 cl.2
              have sgk := xSk_ge (n := n) (T := T) (s := xRun n T xL s)
              have S3 : xS dd n T o md b (a + 1) (60 :: W) (xRun n T xL s) (xSk n T (xRun n T xL s)) L C [] hc1 h3 := xS_mk a2 (cO_6 O a3) r2 (mO_m p2 r3) rl (by simp only [List.length_cons]; omega) (by simp only [List.length_cons]; omega)
              obtain ⟨hc2, g1, g2, g3⟩ := (ih (by omega)).2.2 _ _ _ _ _ _ _ S3
              rw [show fRd_takesWord 1009 hc = _ from a1, Option.bind_some]
              dsimp only
              rw [ja1, g1, Option.bind_some]
              rcases g3 with ⟨f', pl', h5, b1, b2, b3, b4, b5⟩ | ⟨e5, s5, l, C5, π, h5, d1, d2, rfl, d4, d5, d6, d7⟩
              · obtain ⟨hc3, u1, u2, u3⟩ := sFo_addF b2 (-23)
                refine ⟨hc3, by rw [u1, Option.bind_some], eFr_trans (xc_6 a3) (eFr_trans g2 (xc_a u3)), Or.inl ⟨f', pl', h5, cF_a b1 u3 ho, u2, ?_, b4, xgF_tr f3 b5⟩⟩
                rw [ks, b3]
              · obtain ⟨u1, u2, u3, u4, u5, u6, u7⟩ := xS_un d2
                simp only [List.length_cons] at u6
                have me5 := mR_e u3
                obtain ⟨h6, k1, k2, k3⟩ := sM_ends1 u3 u4 hb (by omega) (by omega) (by omega)
                have ul : (L ++ l).length < 1600 := by have := u5.1; omega
                obtain ⟨hc3, t1, t2, t3⟩ := sFo_add (x := -23) u2 ul
                rw [show a + 1 - 1 = a by omega] at k2
                have lf : L ++ l ++ [-23] = L ++ (l ++ [-23]) := List.append_assoc ..
                rw [lf] at t2
                have pms := pm_s (a := a) (by omega)
                refine ⟨hc3, by rw [show fFo_add o (-23) hc2 = _ from t1, Option.bind_some], eFr_trans (xc_6 a3) (eFr_trans g2 (xc_a t3)), Or.inr ⟨e5, s5, l ++ [-23], C5 ++ [60], [], h6, ?_, xS_mk (cR_a u1 t3 ho) t2 (mR_q u3 k3) k2 ?_ ?_ hb, rfl, by omega, jseg_m (jseg_far d5) (by omega), fun z hz => ?_, eFr_trans f3 (eFr_trans d7 (xg_q k3))⟩⟩
                · rw [ks, d1]
                  unfold kA
                  rw [k1]
                · rw [← lf]
                  exact xRel_add u5 (Or.inl rfl)
                · rw [List.length_append, List.length_singleton]; omega
                · rcases List.mem_append.mp hz with hz | hz
                  · exact d6 z hz
                  · unfold xst
                    intro t
                    omega
          · -- a fact, or nothing
            rw [if_neg cp] at m3
            have kp := kP_out (v := v) m3
            rw [kt] at kp
            have cs : fFo_readPart_g (fFo_grp (K + 1)) o (jz a) hc = fFo_readPart_g_j154 (fFo_grp (K + 1)) o hc := by
              rw [cs0, O.2.2.1]
              rcases hmd with rfl | rfl
              · rw [if_pos (show jz 0 = 0 from rfl)]
              · rw [if_neg (show ¬ jz 1 = 0 by decide), sw, if_neg (fun t => cp ⟨t, rfl⟩), if_pos (show jz 0 = 0 from rfl)]
            rw [cs]
            unfold fFo_readPart_g_j154
            obtain ⟨rf1, rf2⟩ := sFo_rfact R O hmd
            rcases hw with ⟨rfl, al⟩ | ⟨rfl, al⟩
            · obtain ⟨q, hq⟩ : ∃ q : Nat, xQw n T e s = q := ⟨(xQw n T e s).toNat, by omega⟩
              have hq7 : q < 7 := by omega
              have y := (xQw_ok q (by omega)).mp hq
              obtain ⟨hc1, a0, a1, a2, a3⟩ := rf1 al
              obtain ⟨h2, b1, b2, b3⟩ := sM_qAsksWord m1.1 (show q < 8 by omega) y
              have xf := xfa_ok hq7
              rw [hq] at kp a0 al
              rw [Int.toNat_natCast] at a0
              rw [if_neg (by rw [show (-1 : Int32) = jz (-1) from rfl, jz_eq (by omega) (by omega) (by omega) (by omega)]; omega), b1, Option.bind_some] at kp
              unfold fM_qPartTold_j212 at kp
              rw [if_neg (by rw [show (-1 : Int32) = jz (-1) from rfl, jz_eq (by omega) (by omega) (by omega) (by omega)]; omega), show (40 : Int32) = jz 40 from rfl, jz_add] at kp
              have lt := xL_no (n := n) (T := T) (e := e) (s := s) (i := xqw q)
              have cl : s < n ∧ xL (T s) = true := Classical.byContradiction (fun t => lt t (xMw_qw (show q < 8 by omega)).1 y)
              have rg := xRunL_gt cl.1 cl.2
              have sgk := xSk_ge (n := n) (T := T) (s := xRun n T xL s)
              obtain ⟨h3, d1, d2, d3, d4⟩ := j237_k (v := v) (c := 40 + (q : Int)) b2 (mO_m O1 b3) (by omega) (by omega)
              obtain ⟨hc2, g1, g2, g3⟩ := sFo_add (x := -1 - xfa q) (cO_6 O a3) (by omega)
              refine ⟨hc2, ?_, eFr_trans (xc_6 a3) (xc_a g3), Or.inr ⟨_, _, [-1 - xfa q], _, [], h3, ?_, xS_mk (cR_a a2 g3 ho) g2 d2 d3 (xRel_add rl ?_) ?_ hb, rfl, by omega, jseg_m (jseg_fact (by omega)) (pm_1 ha), fun z hz => ?_, eFr_trans (xg_m (eFr_trans (xm_2 m2) b3)) (xg_q d4)⟩⟩
              · rw [a0, if_neg (by rw [show (-1 : Int32) = jz (-1) from rfl, jz_eq (by omega) (by omega) (by omega) (by omega)]; omega), a1, Option.bind_some, show (-1 : Int32) = jz (-1) from rfl, jz_sub, g1, Option.bind_some]
              · rw [kp]
                exact d1
              · exact Or.inl xf.2.2.1.symm
              · rw [List.length_append, List.length_singleton]; omega
              · have := List.mem_singleton.mp hz
                unfold xst
                intro t
                have := xf.2.2.2 (by omega)
                omega
            · have a0 := rf2 al
              have fl := sRd_hereR R (f := 1) (by omega)
              obtain ⟨h2, b1, b2, b3⟩ := (sM_number (m := 9999) m1.1 (by omega)).1 cN
              obtain ⟨h3, d1, d2, d3, d4⟩ := j237_F b2 (mO_m O1 b3) (1000 + 0)
              rw [if_pos (show jz (-1) = -1 from rfl)] at kp
              unfold fM_qPartTold_j212 at kp
              rw [if_pos (show jz (-1) = -1 from rfl)] at kp
              refine ⟨_, ?_, xc_6 fl.2, Or.inl ⟨1, s, h3, fl.1, xcnt_6 (cO_cnt O) fl.2 ho, ?_, d2, eFr_trans (xg_m (eFr_trans (xm_2 m2) b3)) (xg_q d3), d4⟩⟩
              · rw [a0, if_pos rfl]
                rfl
              · rw [kp, show fM_number 0 9999 h1 = _ from b1, Option.bind_some]
                dsimp only
                rw [d1, Option.bind_some]
                unfold kB
                rw [if_neg (mF_5 d2), k0]
end XV
