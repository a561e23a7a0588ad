/-! Call: ask -/
def xAc (o k : Nat) : Prop := o = 6 ∨ o = 8 ∨ o = 9 ∨ o = 10 ∨ o = 82 ∨ (o = 1 ∧ (k = 14 ∨ k = 15)) ∨ (o = 2 ∧ k = 1)
def xAm (o k : Nat) : Prop := (173 ≤ o ∧ o ≤ 175) ∨ (o = 110 ∧ ((1 ≤ k ∧ k ≤ 8) ∨ k = 35 ∨ k = 49 ∨ k = 80 ∨ (82 ≤ k ∧ k ≤ 84) ∨ (86 ≤ k ∧ k ≤ 88)))
section XA
variable {n : Nat} {T : Nat → Nat} {g p d : Nat} {D S : jD} {h H : jH}
theorem xAc_I {h1 : jH} {o k : Nat} (a : eFr xAc h h1) (ho : xAc o k) (v : Int32) : eFr xAc h (jhI h1 o k v) := eFr_I (S := xAc) a ho v
theorem xAm_I {h1 : jH} {k : Nat} (a : eFr xAm h h1) (hk : (1 ≤ k ∧ k ≤ 8) ∨ k = 35 ∨ k = 49 ∨ k = 80 ∨ (82 ≤ k ∧ k ≤ 84) ∨ (86 ≤ k ∧ k ≤ 88)) (v : Int32) : eFr xAm h (jhI h1 110 k v) := eFr_I (S := xAm) a (Or.inr ⟨rfl, hk⟩) v
theorem xAm_L {h1 : jH} (a : eFr xAm h h1) (v : Int64) : eFr xAm h (jhL h1 110 87 v) := eFr_L (S := xAm) a (Or.inr ⟨rfl, by omega⟩) v
theorem xAm_g {h1 : jH} (a : eFr xg h h1) : eFr xAm h h1 := eFr_mono a (fun o k hk => by unfold xg at hk; unfold xAm; omega)
theorem xAm_t {h1 : jH} (a : eFr xtk h h1) : eFr xAm h h1 := eFr_mono a (fun o k hk => by unfold xtk at hk; unfold xAm; omega)
theorem xAc_c {h1 : jH} (a : eFr (xc 8) h h1) : eFr xAc h h1 := eFr_mono a (fun o k hk => by unfold xc at hk; unfold xAc; omega)
theorem xAc_t {h1 : jH} (a : eFr xtc h h1) : eFr xAc h h1 := eFr_mono a (fun o k hk => by unfold xtc at hk; unfold xAc; omega)
theorem ask_begin (tc : xTc n T h) : ∃ c3, fRd_begin h = some c3 ∧ cR n T (-1) (xSk n T 0) c3 ∧ eFr x6 h c3 := by
  have hb := tc.1
  obtain ⟨c2, hc2⟩ : ∃ c2, c2 = jhI (jhI (jhI (jhI h 6 2 (jz 0)) 6 5 (jz 0)) 6 6 (jz (-1))) 6 3 (jz 3) := ⟨_, rfl⟩
  have f12 : eFr x6 h c2 := by rw [hc2]; exact x6_I (x6_I (x6_I (x6_I (eFr_refl _ _) _) _) _) _
  have t2 : xTc n T c2 := xTc_fr tc (fun o k hk => by rw [f12.1 _ _ (by unfold x6; omega)])
  obtain ⟨c3, b1, b2, b3⟩ := sRd_step (h := c2) (a := 0) (k := 3) (e := -1) t2 (by omega) (by rw [hc2]; simp (disch := omega) only [jhI_1, if_neg, if_pos, and_self, if_true]; rfl) (by rw [hc2]; simp (disch := omega) only [jhI_1, if_neg, if_pos, and_self, if_true]) (by omega) (by rw [hc2]; simp (disch := omega) only [jhI_1, if_neg, if_pos, and_self, if_true]) (by rw [hc2]; simp (disch := omega) only [jhI_1, if_neg, if_pos, and_self, if_true]) (by omega) (fun _ => by omega)
  refine ⟨c3, ?_, b2, eFr_trans f12 b3⟩
  unfold fRd_begin
  rw [show jhI (jhI (jhI (jhI h 6 2 0) 6 5 0) 6 6 (-1)) 6 3 3 = c2 from hc2.symm, b1, Option.bind_some]
theorem ask_m0 (tm : xTm n T H) (wd : eWd H) (m1 : H.1 110 1 = jz n) : ∃ p1, (jhI (jhI (jhI (jhI (jhI (jhI (jhI (jhI (jhI (jhI (jhI H 110 3 (H.1 110 1)) 110 1 0) 110 2 0) 110 4 (-1)) 110 5 0) 110 6 (-1)) 110 49 0) 110 80 0) 110 82 0) 110 83 0) 110 84 0) = p1 ∧ mR n T (-1) (xSk n T 0) p1 ∧ mO [] 0 0 [] 1 p1 ∧ eFr xAm H p1 ∧ p1.1 110 1 = jz 0 := by
  refine ⟨_, rfl, ?_⟩
  obtain ⟨p1, hp1⟩ : ∃ p1, p1 = (jhI (jhI (jhI (jhI (jhI (jhI (jhI (jhI (jhI (jhI (jhI H 110 3 (jz n)) 110 1 (jz 0)) 110 2 (jz 0)) 110 4 (jz (-1))) 110 5 (jz 0)) 110 6 (jz (-1))) 110 49 (jz 0)) 110 80 (jz 0)) 110 82 (jz 0)) 110 83 (jz 0)) 110 84 (jz 0)) := ⟨_, rfl⟩
  rw [m1, show (0 : Int32) = jz 0 from rfl, show (-1 : Int32) = jz (-1) from rfl, ← hp1]
  have f1 : eFr xAm H p1 := by
    rw [hp1]
    exact xAm_I (xAm_I (xAm_I (xAm_I (xAm_I (xAm_I (xAm_I (xAm_I (xAm_I (xAm_I (xAm_I (eFr_refl _ _) (by omega) _) (by omega) _) (by omega) _) (by omega) _) (by omega) _) (by omega) _) (by omega) _) (by omega) _) (by omega) _) (by omega) _) (by omega) _
  have sle := xSk_le (n := n) (T := T) (s := 0) (by omega)
  refine ⟨⟨xTm_fr tm (fun k => f1.1 _ _ (by unfold xAm; omega)), eWd_fr (fun o k hk => f1.1 _ _ (by unfold xAm; omega)) wd, sle, ⟨0, by omega, rfl, by omega, ?_⟩, ?_, ?_, by omega, ?_, ?_⟩, ⟨?_, fun i hi => by simp at hi, ?_, by simp, ?_, ?_, fun j hj => by simp at hj, ?_, by simp, by simp, fun x hx => (by cases hx), Or.inr rfl, by omega, by omega⟩, f1, ?_⟩ <;> (rw [hp1]; simp (disch := omega) only [jhI_1, if_neg, if_pos, and_self, if_true]; try rfl)
/-- a wedding stands -/
theorem ask_core (hpd : iPD p d) (tc : xTc n T h) (b : bV g D) (bs : bS g S) (c : cV p g D h) (cs : cS 11 S h) (fr : ∀ j, j < 8 → h.1 (p + 8) j = jz (if j < g then ((jfarN g (ePD D) j : Nat) : Int) else 0)) (w1 : D 0 10 = 1) (tm : xTm n T H) (wd : eWd H) (m1 : H.1 110 1 = jz n) (m : mV g D H) (ms : mS S H) : ∃ a hcF hmF, fA_ask p h = some (a, hcF) ∧ fM_ask H = some (a, hmF) ∧ eFr xAc h hcF ∧ eFr xAm H hmF ∧ hmF.1 110 1 = jz 0 ∧ hcF.1 2 1 = jz 0 ∧ hcF.1 1 14 = hmF.1 110 7 ∧ hcF.1 1 15 = hmF.1 110 8 := by
  have hpd' := hpd
  unfold iPD at hpd'
  have b0 := b.1
  obtain ⟨c3, b1, b2, b3⟩ := ask_begin tc
  obtain ⟨c4, hc4⟩ : ∃ c4, c4 = jhI (jhI c3 8 2 (jz 0)) 8 3 (jz 1) := ⟨_, rfl⟩
  have f4 : eFr xAc h c4 := by
    rw [hc4]
    exact xAc_I (xAc_I (xAc_c (xc_6 b3)) (by unfold xAc; omega) _) (by unfold xAc; omega) _
  have R4 : cR n T (-1) (xSk n T 0) c4 := cR_fr b2 (fun o k ho => by rw [hc4, jhI_1, if_neg (by omega), jhI_1, if_neg (by omega)])
  have O4 : cO 8 [] 1 c4 := ⟨by rw [hc4, jhI_1, if_neg (by omega), jhI_1, if_pos ⟨rfl, rfl⟩]; rfl, fun j hj => by simp at hj, by rw [hc4, jhI_1, if_pos ⟨rfl, rfl⟩], by simp, by omega⟩
  obtain ⟨p1, hp1, R1, O1, fp1, p11⟩ := ask_m0 tm wd m1
  obtain ⟨k, hc', hm', k0, k5, a1, a2, a3, a4, a5⟩ := quest_ok R4 O4 R1 O1
  have c12 : h.1 1 12 = jz 1 := by rw [c.2.2.1.1, w1]
  have m48 : H.1 110 48 = jz 1 := by rw [m.2.2.1.1, w1]
  have rq : fFo_readQuestion 8 c3 = some (jz k, hc') := by
    unfold fFo_readQuestion
    rw [show jhI (jhI c3 8 2 0) 8 3 1 = c4 from hc4.symm]
    exact a1
  obtain ⟨hA, hhA⟩ : ∃ hA, hA = jhI (jhI (jhI hc' 1 14 (hc'.1 6 5)) 1 15 (hc'.1 6 6)) 2 1 (jz 0) := ⟨_, rfl⟩
  have fc' : eFr xAc h hc' := eFr_trans f4 (xAc_c a3)
  have c21 : hc'.1 2 1 = jz n := by
    have hb := tc.1
    rw [a3.1 _ _ (by unfold xc; omega), hc4, jhI_1, if_neg (by omega), jhI_1, if_neg (by omega), b3.1 _ _ (by unfold x6; omega)]
    exact tc.2.1
  have close : fA_closeReading hc' = hA := by
    have tn := tc.1
    unfold fA_closeReading fTp_cut fRd_firstFault fRd_firstPlace
    have u1 : (jhI (jhI hc' 1 14 (hc'.1 6 5)) 1 15 ((jhI hc' 1 14 (hc'.1 6 5)).1 6 6)).1 2 1 = jz n := by rw [jhI_1, if_neg (by omega), jhI_1, if_neg (by omega)]; exact c21
    rw [if_neg (show ¬ (0 : Int32) < 0 by decide), u1, if_neg (by rw [show (0 : Int32) = jz 0 from rfl, jz_lt (by omega) (by omega) (by omega) (by omega)]; omega), hhA, jhI_1, if_neg (by omega)]
    rfl
  have kA : ∀ o k, ¬ (o = 1 ∧ (k = 14 ∨ k = 15)) → ¬ (o = 2 ∧ k = 1) → hA.1 o k = hc'.1 o k := fun o k n1 n2 => by rw [hhA, jhI_1, if_neg n2, jhI_1, if_neg (by omega), jhI_1, if_neg (by omega)]
  have A14 : hA.1 1 14 = hc'.1 6 5 := by rw [hhA, jhI_1, if_neg (by omega), jhI_1, if_neg (by omega), jhI_1, if_pos ⟨rfl, rfl⟩]
  have A15 : hA.1 1 15 = hc'.1 6 6 := by rw [hhA, jhI_1, if_neg (by omega), jhI_1, if_pos ⟨rfl, rfl⟩]
  have A21 : hA.1 2 1 = jz 0 := by rw [hhA, jhI_1, if_pos ⟨rfl, rfl⟩]
  have fA : eFr xAc h hA := by
    rw [hhA]
    exact xAc_I (xAc_I (xAc_I fc' (by unfold xAc; omega) _) (by unfold xAc; omega) _) (by unfold xAc; omega) _
  have clA : fA_ask p h = (if hA.1 1 14 = 0 then (if 2 < jz k then Option.bind (fA_answerOfSum p (jz k) hA) (fun z8 => some (z8.1, z8.2)) else Option.bind (fA_answerOfTest p (jz k) hA) (fun z9 => some (z9.1, z9.2))) else some ((-1000000000000000), hA)) := by
    unfold fA_ask
    rw [c12, if_neg (show ¬ jz 1 = 0 by decide), b1, Option.bind_some, rq, Option.bind_some]
    dsimp only
    rw [close]
  have clM : fM_ask H = fM_ask_j133 (jz k) hm' := by
    unfold fM_ask
    rw [m48, if_neg (show ¬ jz 1 = 0 by decide), hp1]
    exact a2
  have fm' : eFr xAm H hm' := eFr_trans fp1 (xAm_g a4)
  have m11 : hm'.1 110 1 = jz 0 := by rw [a4.1 _ _ (by unfold xg; omega)]; exact p11
  obtain ⟨w, hw⟩ : ∃ w, w = jhI (jhI hm' 110 7 (hm'.1 110 5)) 110 8 (hm'.1 110 6) := ⟨_, rfl⟩
  have k6 : (jhI hm' 110 7 (hm'.1 110 5)).1 110 6 = hm'.1 110 6 := by rw [jhI_1, if_neg (by omega)]
  have w5 : w.1 110 5 = hm'.1 110 5 := by rw [hw, jhI_1, if_neg (by omega), jhI_1, if_neg (by omega)]
  have w7 : w.1 110 7 = hm'.1 110 5 := by rw [hw, jhI_1, if_neg (by omega), jhI_1, if_pos ⟨rfl, rfl⟩]
  have w8 : w.1 110 8 = hm'.1 110 6 := by rw [hw, jhI_1, if_pos ⟨rfl, rfl⟩]
  have w11 : w.1 110 1 = jz 0 := by rw [hw, jhI_1, if_neg (by omega), jhI_1, if_neg (by omega)]; exact m11
  have fw : eFr xAm H w := by rw [hw]; exact xAm_I (xAm_I fm' (by omega) _) (by omega) _
  have j133 : fM_ask_j133 (jz k) hm' = (if w.1 110 5 = 0 then (if jz k < 2 then fM_ask_j173 (jz k) (-1) w else fM_ask_j173 (jz k) 0 w) else some ((-1000000000000000), w)) := by
    unfold fM_ask_j133
    rw [k6, ← hw]
  rw [clA, clM, j133]
  rcases a5 with ⟨f, pl, d1, d2⟩ | ⟨e9, s9, l, C9, d1, d2, d3, d4, d5, d6, d7⟩
  · obtain ⟨q1, q2, q3, q4, q5, q6, q7, q8⟩ := d2
    have nf : ¬ jz f = 0 := by
      rw [show (0 : Int32) = jz 0 from rfl, jz_eq (by omega) (by omega) (by omega) (by omega)]
      omega
    refine ⟨(-1000000000000000 : Int64), hA, w, ?_, ?_, fA, fw, w11, A21, ?_, ?_⟩
    · rw [A14, d1.2.2.1, if_neg nf]
    · rw [w5, q7, if_neg nf]
    · rw [A14, w7, d1.2.2.1, q7]
    · rw [A15, w8, d1.2.2.2.1, q8]
  · have c65 : hc'.1 6 5 = jz 0 := d1.2.2.2.2.2.2.2.1
    have c66 : hc'.1 6 6 = jz (-1) := d1.2.2.2.2.2.2.2.2
    have m65 : hm'.1 110 5 = jz 0 := d3.2.2.2.2.2.2.2.1
    have m66 : hm'.1 110 6 = jz (-1) := d3.2.2.2.2.2.2.2.2
    -- the values
    have hv : ∀ i : Nat, ∃ v : Int, i < g → jrun (eFct D S i (S 2 i)) (eFar D g i) l [] = some [v] ∧ (k < 3 → v = 0 ∨ v = 1) := fun i => by
      by_cases z : i < g
      · have E := eFar_E b bs z
        by_cases z2 : k < 3
        · obtain ⟨v, v1, v2⟩ := d6 z2 _ _ E [] (by decide)
          exact ⟨v, fun _ => ⟨v2, fun _ => v1⟩⟩
        · obtain ⟨v, v1, v2, v3⟩ := d7 _ _ E [] (by decide)
          exact ⟨v, fun _ => ⟨v3, fun t => absurd t z2⟩⟩
      · exact ⟨0, fun t => absurd t z⟩
    obtain ⟨V, hV⟩ := Classical.axiomOfChoice hv
    have Xc : xVc p d g D S l V hA := ⟨hpd, b, bs, cV_fr (fun o k hk => fA.1 _ _ (by unfold xAc; omega)) c, cS_fr (fun o k hk => fA.1 _ _ (by unfold xAc; omega)) cs, fun j hj => by rw [fA.1 _ _ (by unfold xAc; omega)]; exact fr j hj, cO_fr d2 (fun o k hk => kA _ _ (by omega) (by omega)), fun i hi => (hV i hi).1⟩
    obtain ⟨w0, hw0⟩ : ∃ w0 : Int → jH, w0 = fun x => jhI (jhI (jhL w 110 87 (jw x)) 110 88 (jz 1)) 110 49 (jz 0) := ⟨_, rfl⟩
    have fw0 : ∀ x, eFr xAm H (w0 x) := fun x => by rw [hw0]; exact xAm_I (xAm_I (xAm_L fw _) (by omega) _) (by omega) _
    have w0w : ∀ x o k, ¬ (o = 110 ∧ (k = 49 ∨ k = 88)) → (w0 x).1 o k = w.1 o k := fun x o k h1 => by rw [hw0]; show (jhI (jhI (jhL w 110 87 (jw x)) 110 88 (jz 1)) 110 49 (jz 0)).1 o k = _; rw [jhI_1, if_neg (by omega), jhI_1, if_neg (by omega), jhL_1]
    have wm : ∀ o k, ¬ (o = 110 ∧ (k = 7 ∨ k = 8)) → w.1 o k = hm'.1 o k := fun o k h1 => by rw [hw, jhI_1, if_neg (by omega), jhI_1, if_neg (by omega)]
    have ll := d2.2.2.2.1
    have Xm : ∀ x, xVm g D S l C9 V (w0 x) := fun x => ⟨b, bs, mV_fr (fun o k hk => (fw0 x).1 _ _ (by unfold xAm; omega)) m, mS_fr (fun k => (fw0 x).1 _ _ (by unfold xAm; omega)) ms, ll, by rw [w0w _ _ _ (by omega), wm _ _ (by omega), d4.2.2.2.2.2.1, d5.1], fun j hj => ⟨by rw [w0w _ _ _ (by omega), wm _ _ (by omega)]; exact d4.2.2.2.2.2.2.1 j (by rw [← d5.1]; exact hj), d5.2 j hj⟩, fun i hi => (hV i hi).1⟩
    have w88 : ∀ x, (w0 x).1 110 88 = jz 1 := fun x => by rw [hw0]; show (jhI (jhI (jhL w 110 87 (jw x)) 110 88 (jz 1)) 110 49 (jz 0)).1 110 88 = _; rw [jhI_1, if_neg (by omega), jhI_1, if_pos ⟨rfl, rfl⟩]
    have w87 : ∀ x, (w0 x).2 110 87 = jw x := fun x => by rw [hw0]; show (jhL w 110 87 (jw x)).2 110 87 = _; rw [jhL_2, if_pos ⟨rfl, rfl⟩]
    have j173 : ∀ x, fM_ask_j173 (jz k) (jw x) w = Option.bind (jlim (fM_ask_l188 (jz k)) (0, w0 x)) (fun x15 => some (x15.2 110 87, x15)) := fun x => by rw [hw0]; rfl
    have fin : ∀ x hm2, eFr xtk (w0 x) hm2 → eFr xAm H hm2 ∧ hm2.1 110 1 = jz 0 ∧ hm2.1 110 7 = jz 0 ∧ hm2.1 110 8 = jz (-1) := fun x hm2 f => ⟨eFr_trans (fw0 x) (xAm_t f), by rw [f.1 _ _ (by unfold xtk; omega), w0w _ _ _ (by omega)]; exact w11, by rw [f.1 _ _ (by unfold xtk; omega), w0w _ _ _ (by omega), w7, m65], by rw [f.1 _ _ (by unfold xtk; omega), w0w _ _ _ (by omega), w8, m66]⟩
    have finc : ∀ hc2, eFr xtc hA hc2 → eFr xAc h hc2 ∧ hc2.1 2 1 = jz 0 ∧ hc2.1 1 14 = jz 0 ∧ hc2.1 1 15 = jz (-1) := fun hc2 f => ⟨eFr_trans fA (xAc_t f), by rw [f.1 _ _ (by unfold xtc; omega)]; exact A21, by rw [f.1 _ _ (by unfold xtc; omega), A14, c65], by rw [f.1 _ _ (by unfold xtc; omega), A15, c66]⟩
    rw [A14, c65, if_pos (show jz 0 = 0 from rfl), w5, m65, if_pos (show jz 0 = 0 from rfl)]
    by_cases z : k < 3
    · rw [if_neg (show ¬ 2 < jz k by rw [show (2 : Int32) = jz 2 from rfl, jz_lt (by omega) (by omega) (by omega) (by omega)]; omega)]
      obtain ⟨x0, hx0, rx⟩ : ∃ x0 : Int, x0 = (if k = 2 then 0 else -1) ∧ (if jz k < 2 then fM_ask_j173 (jz k) (-1) w else fM_ask_j173 (jz k) 0 w) = fM_ask_j173 (jz k) (jw x0) w := by
        by_cases z2 : k = 2
        · refine ⟨0, by rw [if_pos z2], ?_⟩
          rw [if_neg (show ¬ jz k < 2 by rw [show (2 : Int32) = jz 2 from rfl, jz_lt (by omega) (by omega) (by omega) (by omega)]; omega)]
          rfl
        · refine ⟨-1, by rw [if_neg z2], ?_⟩
          rw [if_pos (show jz k < 2 by rw [show (2 : Int32) = jz 2 from rfl, jz_lt (by omega) (by omega) (by omega) (by omega)]; omega)]
          rfl
      obtain ⟨hc2, hm2, x', c', y1, y2, y3, y4, y5, y6, y7, y8, y9⟩ := test_ans (kd := k) (by omega) (fun i hi => (hV i hi).2 z) g 0 (by omega) hA (w0 x0) (-1) 0 1 Xc (Xm x0) (by omega) (by omega) (by omega) (by omega) (w88 x0) (Or.inr rfl) (by rw [w87, hx0])
      obtain ⟨g1, g2, g3, g4⟩ := fin x0 hm2 y9
      obtain ⟨g5, g6, g7, g8⟩ := finc hc2 y8
      have y1' : jlim (fA_answerOfTest_l7 p (jz k)) (-1, 0, 0, hA) = some (jz x', jz c', hc2) := y1
      have y2' : jlim (fM_ask_l188 (jz k)) (0, w0 x0) = some hm2 := y2
      refine ⟨jw (if k = 2 then c' else x'), hc2, hm2, ?_, ?_, g5, g1, g2, g6, by rw [g7, g3], by rw [g8, g4]⟩
      · unfold fA_answerOfTest
        rw [y1', Option.bind_some]
        dsimp only
        by_cases z2 : k = 2
        · rw [if_pos (show jz k = 2 by rw [z2]; rfl), Option.bind_some, if_pos z2, jzw (by omega) (by omega)]
        · rw [if_neg (show ¬ jz k = 2 by rw [show (2 : Int32) = jz 2 from rfl, jz_eq (by omega) (by omega) (by omega) (by omega)]; exact z2), Option.bind_some, if_neg z2, jzw (by omega) (by omega)]
      · rw [rx, j173, y2', Option.bind_some, y3]
    · rw [if_pos (show 2 < jz k by rw [show (2 : Int32) = jz 2 from rfl, jz_lt (by omega) (by omega) (by omega) (by omega)]; omega), if_neg (show ¬ jz k < 2 by rw [show (2 : Int32) = jz 2 from rfl, jz_lt (by omega) (by omega) (by omega) (by omega)]; omega)]
      obtain ⟨hc2, hm2, acc, y1, y2, y3, y4, y5⟩ := sum_ans (kd := k) (by omega) g 0 (by omega) hA (w0 0) 0 Xc (Xm 0) (by omega) (by omega) (by rw [if_pos rfl]; exact w88 0) (w87 0)
      obtain ⟨g1, g2, g3, g4⟩ := fin 0 hm2 y5
      obtain ⟨g5, g6, g7, g8⟩ := finc hc2 y4
      have y1' : jlim (fA_answerOfSum_l5 p (jz k)) (0, 0, hA) = some (jw acc, hc2) := y1
      have y2' : jlim (fM_ask_l188 (jz k)) (0, w0 0) = some hm2 := y2
      refine ⟨jw acc, hc2, hm2, ?_, ?_, g5, g1, g2, g6, by rw [g7, g3], by rw [g8, g4]⟩
      · unfold fA_answerOfSum
        rw [y1', Option.bind_some, Option.bind_some]
      · rw [show (0 : Int64) = jw 0 from rfl, j173, y2', Option.bind_some, y3]
end XA
theorem xA_S0 {d o k : Nat} (hd : d = 84 ∨ d = 98) (h : xAc o k ∨ xAm o k) : jS0 d o k ∨ xsp o k := by
  unfold xAc xAm at h
  by_cases z : xsp o k
  · exact Or.inr z
  · refine Or.inl ?_
    unfold xsp at z
    rcases h with h | h
    · have : (6 ≤ o ∧ o ≤ 10) ∨ (80 ≤ o ∧ o ≤ 83) := by omega
      rcases this with h | h
      · exact Or.inl h
      · exact Or.inr (Or.inr (Or.inl h))
    · rcases h with h | ⟨rfl, h⟩
      · unfold jS0; simp [h]
      · have hk : (2 ≤ k ∧ k ≤ 6) ∨ k = 35 ∨ k = 49 ∨ k = 80 ∨ (82 ≤ k ∧ k ≤ 84) ∨ (86 ≤ k ∧ k ≤ 88) := by omega
        refine Or.inr (Or.inr (Or.inr (Or.inr (Or.inr (Or.inr (Or.inr (Or.inl ⟨rfl, ?_⟩)))))))
        omega
theorem call_30 : jcal_30 jInv := by
  intro p d q h V
  obtain ⟨hpd, hq, v1, ⟨n, T, tn, t1, t2, t3⟩, v3, v4, v5, v6, v7⟩ := V
  have v7' := v7
  obtain ⟨g, D, S, L, ⟨b, c, m, -, -, -, e9⟩, ⟨bs, cs, ms⟩, -⟩ := v7'
  have hpd' := hpd
  unfold iPD at hpd'
  have hd : d = 84 ∨ d = 98 := by omega
  have tc : xTc n T h := ⟨tn, t1, fun k hk => ⟨(t3 k hk).1, (t3 k hk).2.1⟩⟩
  have tm : xTm n T h := ⟨tn, fun k hk => ⟨(t3 k hk).1, (t3 k hk).2.2⟩⟩
  -- what stays
  have keep : ∀ y : jH, (∀ o k, ¬ (jS0 d o k ∨ xsp o k) → y.1 o k = h.1 o k) → (∀ o k, ¬ jS0 d o k → ¬ xsp o k → y.2 o k = h.2 o k) → y.1 2 1 = jz 0 → y.1 110 1 = jz 0 → y.1 1 14 = y.1 110 7 → y.1 1 15 = y.1 110 8 → (∀ k, k < 6 → y.1 97 k = y.1 112 k) → jInv p d q y := by
    intro y e e2 u1 u2 u3 u4 u5
    have e' : ∀ o k, ¬ jS0 d o k → ¬ xsp o k → y.1 o k = h.1 o k := fun o k n1 n2 => e o k (fun t => t.elim n1 n2)
    refine ⟨hpd, hq, eWd_fr (fun o k hk => e' o k (by unfold jS0; omega) (by unfold xsp; omega)) v1, ⟨0, T, by omega, u1, u2, fun k hk => by omega⟩, ⟨u3, u4⟩, u5, iSeed_fr (e' _ _ (by unfold jS0; omega) (by unfold xsp; omega)) (e2 _ _ (by unfold jS0; omega) (by unfold xsp; omega)) v5, iPic_fr (fun o k hk => e' o k (by unfold jS0; omega) (by unfold xsp; omega)) v6, iWed_fr hq (fun o k hk => e' o k (by rcases hk with (hk | hk | hk) | hk | hk <;> (unfold jS0; omega)) (by rcases hk with (hk | hk | hk) | hk | hk <;> (unfold xsp; omega))) (fun k hk => e2 _ _ (by unfold jS0; omega) (by unfold xsp; omega)) v7⟩
  rcases b.2.2.1.1 with z | z
  · -- no wedding
    have c12 : h.1 1 12 = jz 0 := by rw [c.2.2.1.1, z]
    obtain ⟨hA, hhA⟩ : ∃ hA, hA = jhI h 2 1 (jz 0) := ⟨_, rfl⟩
    have clA : fA_ask p h = some ((-1000000000000000), hA) := by
      unfold fA_ask fTp_cut
      rw [c12, if_pos (show jz 0 = 0 from rfl), if_neg (show ¬ (0 : Int32) < 0 by decide), t1, if_neg (by rw [show (0 : Int32) = jz 0 from rfl, jz_lt (by omega) (by omega) (by omega) (by omega)]; omega), hhA]
      rfl
    have m48 : hA.1 110 48 = jz 0 := by rw [hhA, jhI_1, if_neg (by omega), m.2.2.1.1, z]
    have clM : fM_ask hA = some ((-1000000000000000), jhI hA 110 1 (jz 0)) := by
      unfold fM_ask
      rw [m48, if_pos (show jz 0 = 0 from rfl)]
      rfl
    have k1 : ∀ o k, ¬ (o = 2 ∧ k = 1) → ¬ (o = 110 ∧ k = 1) → (jhI hA 110 1 (jz 0)).1 o k = h.1 o k := fun o k n1 n2 => by rw [jhI_1, if_neg n2, hhA, jhI_1, if_neg n1]
    refine ⟨_, clA, _, clM, rfl, keep _ (fun o k hk => k1 _ _ (fun t => hk (Or.inr (by unfold xsp; omega))) (fun t => hk (Or.inr (by unfold xsp; omega)))) (fun o k _ _ => by rw [hhA]; rfl) ?_ ?_ ?_ ?_ ?_⟩
    · rw [jhI_1, if_neg (by omega), hhA, jhI_1, if_pos ⟨rfl, rfl⟩]
    · rw [jhI_1, if_pos ⟨rfl, rfl⟩]
    · rw [k1 _ _ (by omega) (by omega), k1 _ _ (by omega) (by omega)]; exact v3.1
    · rw [k1 _ _ (by omega) (by omega), k1 _ _ (by omega) (by omega)]; exact v3.2
    · intro k hk
      rw [k1 _ _ (by omega) (by omega), k1 _ _ (by omega) (by omega)]; exact v4 k hk
  · have fr : ∀ j, j < 8 → h.1 (p + 8) j = jz (if j < g then ((jfarN g (ePD D) j : Nat) : Int) else 0) := fun j hj => by
      rw [(c.2.2.2.2 j hj).2.2, e9 j hj]
    obtain ⟨a0, hcF, hm0, q1, -, q3, -, -, q6, -, -⟩ := ask_core hpd tc b bs c cs fr z tm v1 t2 m ms
    have n0 : ∀ o k, ¬ xAc o k → hcF.1 o k = h.1 o k := fun o k hk => q3.1 o k hk
    obtain ⟨a1, hcF', hmF, r1, r2, r3, r4, r5, r6, r7, r8⟩ := ask_core hpd tc b bs c cs fr z (xTm_fr tm (fun k => n0 _ _ (by unfold xAc; omega))) (eWd_fr (fun o k hk => n0 _ _ (by unfold xAc; omega)) v1) (by rw [n0 _ _ (by unfold xAc; omega)]; exact t2) (mV_fr (fun o k hk => n0 _ _ (by unfold xAc; omega)) m) (mS_fr (fun k => n0 _ _ (by unfold xAc; omega)) ms)
    have r1' := r1
    rw [q1] at r1'
    obtain ⟨rfl, rfl⟩ : a0 = a1 ∧ hcF = hcF' := ⟨congrArg Prod.fst (Option.some.inj r1'), congrArg Prod.snd (Option.some.inj r1')⟩
    refine ⟨_, r1, _, r2, rfl, keep hmF (fun o k hk => ?_) (fun o k n1 n2 => ?_) ?_ r5 ?_ ?_ ?_⟩
    · rw [r4.1 _ _ (fun t => hk (xA_S0 hd (Or.inr t))), n0 _ _ (fun t => hk (xA_S0 hd (Or.inl t)))]
    · rw [r4.2 _ _ (fun t => (xA_S0 (d := d) hd (Or.inr t)).elim n1 n2), q3.2 _ _ (fun t => (xA_S0 (d := d) hd (Or.inl t)).elim n1 n2)]
    · rw [r4.1 _ _ (by unfold xAm; omega)]; exact r6
    · rw [r4.1 1 14 (by unfold xAm; omega)]; exact r7
    · rw [r4.1 1 15 (by unfold xAm; omega)]; exact r8
    · intro k hk
      rw [r4.1 _ _ (by unfold xAm; omega), r4.1 _ _ (by unfold xAm; omega), n0 _ _ (by unfold xAc; omega), n0 _ _ (by unfold xAc; omega)]
      exact v4 k hk
