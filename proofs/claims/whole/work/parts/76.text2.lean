/-! the first STATEMENT; the text, whole -/
def eIni (x1 x2 x3 x4 : Int) : jD := fun a k => if a = 0 then (if k = 3 then x1 else if k = 4 then x2 else if k = 5 then x3 else if k = 6 then x4 else if k = 7 then 5 else if k = 8 then 50 else if k = 9 then 2 else if k = 10 then 1 else 0) else 0
section XU
variable {n : Nat} {T : Nat → Nat} {e : Int} {s s0 d g np nh : Nat} {D : jD} {L : List Int} {h hc hm h' : jH} {f pl : Int} {P : Nat → Nat}
theorem xFm_140 {k : Nat} (h : k < 4) : xFm 140 k := Or.inr (Or.inr (Or.inr (Or.inl ⟨rfl, h⟩)))
theorem xFm_138 {o k : Nat} (h : o = 138 ∧ k < 3) : xFm o k := Or.inr (Or.inl h)
theorem xFm_142 {o k : Nat} (h : (o = 142 ∨ o = 143) ∧ k < 8) : xFm o k := by
  obtain ⟨rfl | rfl, h⟩ := h
  · exact Or.inr (Or.inr (Or.inr (Or.inr (Or.inr (Or.inl ⟨rfl, h⟩)))))
  · exact Or.inr (Or.inr (Or.inr (Or.inr (Or.inr (Or.inr (Or.inl ⟨rfl, h⟩))))))
/-- seats, bench, plate, lack -/
theorem told_seats (hd : d = 84 ∨ d = 98) (B : xBo n T s0 hc hm) : ∃ hc' hm', fPr_readSeats d hc = some hc' ∧ (∀ (X : Type) (k : jH → Option X), Option.bind (fM_weddingTold hm) k = Option.bind (fM_asksSign 59 hm') k) ∧ eFr (xFc d) hc hc' ∧ eFr xFm hm hm' ∧ xBo n T s0 hc' hm' ∧ (∀ o k, d ≤ o → o ≤ d + 11 → ¬ (o = d ∧ 3 ≤ k ∧ k ≤ 6) → hc'.1 o k = hc.1 o k) ∧ (∀ o k, (o = 138 ∨ o = 141 ∨ o = 142 ∨ o = 143 ∨ o = 144 ∨ o = 145 ∨ o = 146 ∨ o = 147 ∨ (o = 110 ∧ k = 46)) → hm'.1 o k = hm.1 o k) ∧ (¬ xbad hc' → ∃ x1 x2 x3 x4 : Int, 0 ≤ x1 ∧ x1 ≤ 40 ∧ 0 ≤ x2 ∧ x2 ≤ 99 ∧ 0 ≤ x3 ∧ x3 ≤ 99 ∧ 0 ≤ x4 ∧ x4 ≤ 99 ∧ (hc'.1 d 3 = jz x1 ∧ hc'.1 d 4 = jz x2 ∧ hc'.1 d 5 = jz x3 ∧ hc'.1 d 6 = jz x4) ∧ (hm'.1 140 0 = jz x1 ∧ hm'.1 140 1 = jz x2 ∧ hm'.1 140 2 = jz x3 ∧ hm'.1 140 3 = jz x4)) := by
  obtain ⟨hdd, h8a, h8b⟩ := xdd_8 hd
  have hdd' := hdd
  unfold xdd at hdd'
  obtain ⟨c1, c2, m1, m2, z1, y1, a1, a2, a3, a4, a5, a6, B1, v1⟩ := wn_x (M := 113) (i := 0) (m := 40) (xMw_o (i := 0) (by omega)) (by omega) B
  have B1' := xBo_m (hm' := jhI m2 140 0 y1) (xBo_c (hc' := jhI c2 d 3 z1) B1 (fun o k hk => by rw [jhI_1, if_neg (by omega)])) (fun o k hk => by rw [jhI_1, if_neg (by omega)])
  have nb1 := xbad_c (hc := c2) (hc' := jhI c2 d 3 z1) (fun k => by rw [jhI_1, if_neg (by omega)])
  obtain ⟨c3, c4, m3, m4, z2, y2, b1, b2, b3, b4, b5, b6, B2, v2⟩ := wn_x (M := 114) (i := 1) (m := 99) (xMw_o (i := 1) (by omega)) (by omega) B1'
  have B2' := xBo_m (hm' := jhI m4 140 1 y2) (xBo_c (hc' := jhI c4 d 4 z2) B2 (fun o k hk => by rw [jhI_1, if_neg (by omega)])) (fun o k hk => by rw [jhI_1, if_neg (by omega)])
  have nb2 := xbad_c (hc := c4) (hc' := jhI c4 d 4 z2) (fun k => by rw [jhI_1, if_neg (by omega)])
  obtain ⟨c5, c6, m5, m6, z3, y3, d1, d2, d3, d4, d5, d6, B3, v3⟩ := wn_x (M := 115) (i := 2) (m := 99) (xMw_o (i := 2) (by omega)) (by omega) B2'
  have B3' := xBo_m (hm' := jhI m6 140 2 y3) (xBo_c (hc' := jhI c6 d 5 z3) B3 (fun o k hk => by rw [jhI_1, if_neg (by omega)])) (fun o k hk => by rw [jhI_1, if_neg (by omega)])
  have nb3 := xbad_c (hc := c6) (hc' := jhI c6 d 5 z3) (fun k => by rw [jhI_1, if_neg (by omega)])
  obtain ⟨c7, c8, m7, m8, z4, y4, e1, e2, e3, e4, e5, e6, B4, v4⟩ := wn_x (M := 116) (i := 3) (m := 99) (xMw_o (i := 3) (by omega)) (by omega) B3'
  have B4' := xBo_m (hm' := jhI m8 140 3 y4) (xBo_c (hc' := jhI c8 d 6 z4) B4 (fun o k hk => by rw [jhI_1, if_neg (by omega)])) (fun o k hk => by rw [jhI_1, if_neg (by omega)])
  have nb4 := xbad_c (hc := c8) (hc' := jhI c8 d 6 z4) (fun k => by rw [jhI_1, if_neg (by omega)])
  have kc : ∀ {y z : jH}, eFr x6 y z → ∀ o k, d ≤ o → o ≤ d + 11 → z.1 o k = y.1 o k := fun f o k h1 h2 => f.1 _ _ (by unfold x6; omega)
  have km : ∀ {y z : jH}, eFr xm y z → ∀ o k, (o = 138 ∨ o = 140 ∨ o = 141 ∨ o = 142 ∨ o = 143 ∨ o = 144 ∨ o = 145 ∨ o = 146 ∨ o = 147 ∨ (o = 110 ∧ k = 46)) → z.1 o k = y.1 o k := fun f o k h1 => f.1 _ _ (by unfold xm; omega)
  refine ⟨jhI c8 d 6 z4, jhI m8 140 3 y4, ?_, fun X k => ?_, ?_, ?_, B4', fun o k h1 h2 h3 => ?_, fun o k h1 => ?_, fun nb => ?_⟩
  · unfold fPr_readSeats
    rw [show fRd_wantsWord 1000 hc = _ from a1, Option.bind_some, show fRd_wantsNumber 40 c1 = _ from a2, Option.bind_some]
    dsimp only
    rw [show fRd_wantsWord 1001 (jhI c2 d 3 z1) = _ from b1, Option.bind_some, show fRd_wantsNumber 99 c3 = _ from b2, Option.bind_some]
    dsimp only
    rw [show fRd_wantsWord 1002 (jhI c4 d 4 z2) = _ from d1, Option.bind_some, show fRd_wantsNumber 99 c5 = _ from d2, Option.bind_some]
    dsimp only
    rw [show fRd_wantsWord 1003 (jhI c6 d 5 z3) = _ from e1, Option.bind_some, show fRd_wantsNumber 99 c7 = _ from e2, Option.bind_some]
  · have i0 : (0 : Int32).toNatClampNeg = 0 := rfl
    have i1 : (1 : Int32).toNatClampNeg = 1 := rfl
    have i2 : (2 : Int32).toNatClampNeg = 2 := rfl
    have i3 : (3 : Int32).toNatClampNeg = 3 := rfl
    unfold fM_weddingTold
    simp only [i0, i1, i2, i3, if_pos (show jin 0 8 by decide), if_pos (show jin 1 8 by decide), if_pos (show jin 2 8 by decide), if_pos (show jin 3 8 by decide)]
    rw [a3, Option.bind_some, show fM_number 0 40 m1 = _ from a4, Option.bind_some]
    dsimp only
    rw [b3, Option.bind_some, show fM_number 0 99 m3 = _ from b4, Option.bind_some]
    dsimp only
    rw [d3, Option.bind_some, show fM_number 0 99 m5 = _ from d4, Option.bind_some]
    dsimp only
    rw [e3, Option.bind_some, show fM_number 0 99 m7 = _ from e4, Option.bind_some]
    dsimp only
    rw [Option.bind_fun_some]
  · exact xFc_d (eFr_trans (xFc_d (eFr_trans (xFc_d (eFr_trans (xFc_d (xFc_6 a5) (by omega) _) (xFc_6 b5)) (by omega) _) (xFc_6 d5)) (by omega) _) (xFc_6 e5)) (by omega) _
  · exact eFr_I (S := xFm) (eFr_trans (eFr_I (S := xFm) (eFr_trans (eFr_I (S := xFm) (eFr_trans (eFr_I (S := xFm) (xFm_m a6) (xFm_140 (by omega)) _) (xFm_m b6)) (xFm_140 (by omega)) _) (xFm_m d6)) (xFm_140 (by omega)) _) (xFm_m e6)) (xFm_140 (by omega)) _
  · rw [jhI_1, if_neg (by omega), kc e5 _ _ h1 h2, jhI_1, if_neg (by omega), kc d5 _ _ h1 h2, jhI_1, if_neg (by omega), kc b5 _ _ h1 h2, jhI_1, if_neg (by omega), kc a5 _ _ h1 h2]
  · rw [jhI_1, if_neg (by omega), km e6 _ _ (by omega), jhI_1, if_neg (by omega), km d6 _ _ (by omega), jhI_1, if_neg (by omega), km b6 _ _ (by omega), jhI_1, if_neg (by omega), km a6 _ _ (by omega)]
  · have w4 : ¬ xbad c8 := fun t => nb (nb4.mpr t)
    obtain ⟨w3, x4, k41, k42, rfl, rfl, -⟩ := v4 w4
    obtain ⟨w2, x3, k31, k32, rfl, rfl, -⟩ := v3 (fun t => w3 (nb3.mpr t))
    obtain ⟨w1, x2, k21, k22, rfl, rfl, -⟩ := v2 (fun t => w2 (nb2.mpr t))
    obtain ⟨w0, x1, k11, k12, rfl, rfl, -⟩ := v1 (fun t => w1 (nb1.mpr t))
    refine ⟨x1, x2, x3, x4, k11, k12, k21, k22, k31, k32, k41, k42, ⟨?_, ?_, ?_, ?_⟩, ?_, ?_, ?_, ?_⟩
    · rw [jhI_1, if_neg (by omega), kc e5 _ _ (by omega) (by omega), jhI_1, if_neg (by omega), kc d5 _ _ (by omega) (by omega), jhI_1, if_neg (by omega), kc b5 _ _ (by omega) (by omega), jhI_1, if_pos ⟨rfl, rfl⟩]
    · rw [jhI_1, if_neg (by omega), kc e5 _ _ (by omega) (by omega), jhI_1, if_neg (by omega), kc d5 _ _ (by omega) (by omega), jhI_1, if_pos ⟨rfl, rfl⟩]
    · rw [jhI_1, if_neg (by omega), kc e5 _ _ (by omega) (by omega), jhI_1, if_pos ⟨rfl, rfl⟩]
    · rw [jhI_1, if_pos ⟨rfl, rfl⟩]
    · rw [jhI_1, if_neg (by omega), km e6 _ _ (by omega), jhI_1, if_neg (by omega), km d6 _ _ (by omega), jhI_1, if_neg (by omega), km b6 _ _ (by omega), jhI_1, if_pos ⟨rfl, rfl⟩]
    · rw [jhI_1, if_neg (by omega), km e6 _ _ (by omega), jhI_1, if_neg (by omega), km d6 _ _ (by omega), jhI_1, if_pos ⟨rfl, rfl⟩]
    · rw [jhI_1, if_neg (by omega), km e6 _ _ (by omega), jhI_1, if_pos ⟨rfl, rfl⟩]
    · rw [jhI_1, if_pos ⟨rfl, rfl⟩]
theorem eIni_b {x1 x2 x3 x4 : Int} (h1 : 0 ≤ x1 ∧ x1 ≤ 40) (h2 : 0 ≤ x2 ∧ x2 ≤ 99) (h3 : 0 ≤ x3 ∧ x3 ≤ 99) (h4 : 0 ≤ x4 ∧ x4 ≤ 99) : xDb 0 0 0 (eIni x1 x2 x3 x4) [] := by
  have e3 : eIni x1 x2 x3 x4 0 3 = x1 := rfl
  have e4 : eIni x1 x2 x3 x4 0 4 = x2 := rfl
  have e5 : eIni x1 x2 x3 x4 0 5 = x3 := rfl
  have e6 : eIni x1 x2 x3 x4 0 6 = x4 := rfl
  have e7 : eIni x1 x2 x3 x4 0 7 = 5 := rfl
  have e8 : eIni x1 x2 x3 x4 0 8 = 50 := rfl
  have e9 : eIni x1 x2 x3 x4 0 9 = 2 := rfl
  have e10 : eIni x1 x2 x3 x4 0 10 = 1 := rfl
  have m7 : ∀ k, eIni x1 x2 x3 x4 7 k = 0 := fun k => rfl
  have m8 : ∀ k, eIni x1 x2 x3 x4 8 k = 0 := fun k => rfl
  refine ⟨⟨by omega, ?_, ?_, fun k hk => by omega, fun k hk => ?_⟩, e10, by omega, by omega, by simp, fun t => absurd rfl t⟩
  · rw [e3, e4, e5, e6, e7, e8, e9]; omega
  · rw [e10]; omega
  · rw [m7, m8]; simp
/-- what the reference does behind the text -/
noncomputable def kW (x17 : jH) : Option (Int32 × jH) :=
  (if ((jhI (jhI x17 110 7 (x17.1 110 5)) 110 8 (x17.1 110 6)).1 110 5) = 0 then
  (Option.bind (fM_stands (jhI (jhI x17 110 7 (x17.1 110 5)) 110 8 (x17.1 110 6))) (fun (z19 : jH) =>
  some (z19.1 110 47, z19)))
  else
  some ((-1), jhI (jhI (jhI x17 110 7 (x17.1 110 5)) 110 8 (x17.1 110 6)) 112 1 (((jhI (jhI x17 110 7 (x17.1 110 5)) 110 8 (x17.1 110 6)).1 112 1) + 1)))
def xFn (o k : Nat) : Prop := xFl o k ∨ (o = 110 ∧ (k = 1 ∨ k = 3))
theorem xFn_m {h h' : jH} (a : eFr xFm h h') : eFr xFn h h' := eFr_mono a (fun o k hk => Or.inl (Or.inl hk))
theorem xFn_l {h h' : jH} (a : eFr xFl h h') : eFr xFn h h' := eFr_mono a (fun o k hk => Or.inl hk)
theorem xDc_fr8 (X : xDc d g np nh D L h) (f : ∀ o k, (d ≤ o ∧ o ≤ d + 10 ∧ o ≠ d + 1 ∧ o ≠ d + 8) → h'.1 o k = h.1 o k) : xDc d g np nh D L h' := by
  unfold xDc at *
  simp (disch := omega) only [f]
  exact X
theorem told_text (hd : d = 84 ∨ d = 98) (tc : xTc n T hc) (tm : xTm n T hm) (wd : eWd hm) (m1 : hm.1 110 1 = jz n) : ∃ x hc' hm', fPr_readInto d hc = some (x, hc') ∧ fM_wedding hm = kW hm' ∧ eFr (xFd d) hc hc' ∧ eFr xFn hm hm' ∧ hm'.1 110 1 = jz 0 ∧ ((∃ f pl, cF f pl hc' ∧ mF n T f pl hm') ∨ ∃ e' c' g np nh D L, x = jz (c' : Nat) ∧ hm'.1 110 47 = jz (c' : Nat) ∧ cR n T e' n hc' ∧ mR n T e' n hm' ∧ xW d g np nh D L hc' hm' ∧ (∀ k, k < g → hc'.1 (d + 8) k = jz (jfarN g (ePD D) k)) ∧ ∀ k, g ≤ k → k < 8 → hc'.1 (d + 8) k = jz 0) := by
  obtain ⟨hdd, h8a, h8b⟩ := xdd_8 hd
  have hdd' := hdd
  unfold xdd at hdd'
  have hb := tc.1
  -- the class begins
  obtain ⟨c1, a1, a2, a3, a4, a5, a6, a7, a8, a9, a10⟩ := clear_ok (d := d) (h := hc)
  have fc1 : eFr (xFd d) hc c1 := eFr_mono a2 (fun o k hk => by unfold xFd; omega)
  obtain ⟨c2, hc2⟩ : ∃ c2, c2 = jhI (jhI (jhI (jhI c1 6 2 (jz 0)) 6 5 (jz 0)) 6 6 (jz (-1))) 6 3 (jz 3) := ⟨_, rfl⟩
  have f12 : eFr x6 c1 c2 := by rw [hc2]; exact x6_I (x6_I (x6_I (x6_I (eFr_refl _ _) _) _) _) _
  have t2 : xTc n T c2 := xTc_fr tc (fun o k hk => by rw [f12.1 _ _ (by unfold x6; omega), a2.1 _ _ (by omega)])
  have s0 := xSk_ge (n := n) (T := T) (s := 0)
  obtain ⟨c3, b1, b2, b3⟩ := sRd_step (h := c2) (a := 0) (k := 3) (e := -1) t2 (by omega) (by rw [hc2]; simp (disch := omega) only [jhI_1, if_neg, if_pos, and_self, if_true]; rfl) (by rw [hc2]; simp (disch := omega) only [jhI_1, if_neg, if_pos, and_self, if_true]) (by omega) (by rw [hc2]; simp (disch := omega) only [jhI_1, if_neg, if_pos, and_self, if_true]) (by rw [hc2]; simp (disch := omega) only [jhI_1, if_neg, if_pos, and_self, if_true]) (by omega) (fun _ => by omega)
  have fc3 : eFr (xFd d) hc c3 := eFr_trans fc1 (xFd_c (xFc_6 (eFr_trans f12 b3)))
  have k3 : ∀ o k, d ≤ o → o ≤ d + 11 → c3.1 o k = c1.1 o k := fun o k h1 h2 => (eFr_trans f12 b3).1 _ _ (by unfold x6; omega)
  -- the reference begins
  obtain ⟨p1, hp1⟩ : ∃ p1, p1 = jhI (jhI (jhI (jhI (jhI (jhI (jhI hm 110 3 (jz n)) 110 1 (jz 0)) 110 2 (jz 0)) 110 4 (jz (-1))) 110 5 (jz 0)) 110 6 (jz (-1))) 110 46 (jz 0) := ⟨_, rfl⟩
  have fp1 : eFr (fun o k => o = 110 ∧ (k = 1 ∨ k = 2 ∨ k = 3 ∨ k = 4 ∨ k = 5 ∨ k = 6 ∨ k = 46)) hm p1 := by
    rw [hp1]
    exact eFr_I (S := fun o k => o = 110 ∧ (k = 1 ∨ k = 2 ∨ k = 3 ∨ k = 4 ∨ k = 5 ∨ k = 6 ∨ k = 46)) (eFr_I (S := fun o k => o = 110 ∧ (k = 1 ∨ k = 2 ∨ k = 3 ∨ k = 4 ∨ k = 5 ∨ k = 6 ∨ k = 46)) (eFr_I (S := fun o k => o = 110 ∧ (k = 1 ∨ k = 2 ∨ k = 3 ∨ k = 4 ∨ k = 5 ∨ k = 6 ∨ k = 46)) (eFr_I (S := fun o k => o = 110 ∧ (k = 1 ∨ k = 2 ∨ k = 3 ∨ k = 4 ∨ k = 5 ∨ k = 6 ∨ k = 46)) (eFr_I (S := fun o k => o = 110 ∧ (k = 1 ∨ k = 2 ∨ k = 3 ∨ k = 4 ∨ k = 5 ∨ k = 6 ∨ k = 46)) (eFr_I (S := fun o k => o = 110 ∧ (k = 1 ∨ k = 2 ∨ k = 3 ∨ k = 4 ∨ k = 5 ∨ k = 6 ∨ k = 46)) (eFr_I (S := fun o k => o = 110 ∧ (k = 1 ∨ k = 2 ∨ k = 3 ∨ k = 4 ∨ k = 5 ∨ k = 6 ∨ k = 46)) (eFr_refl _ _) (by omega) _) (by omega) _) (by omega) _) (by omega) _) (by omega) _) (by omega) _) (by omega) _
  obtain ⟨p2, q1, q2, q3⟩ := mclear1 (h := p1)
  obtain ⟨p3, r1, r2, r3⟩ := mclear2 (h := p2)
  obtain ⟨p4, hp4⟩ : ∃ p4, p4 = jhI (jhI (jhI (jhI p3 144 0 (jz 5)) 144 1 (jz 50)) 144 2 (jz 2)) 145 0 (jz (-1)) := ⟨_, rfl⟩
  have k14 : ∀ o k, o ≠ 138 → o ≠ 142 → o ≠ 143 → o ≠ 144 → o ≠ 145 → p4.1 o k = p1.1 o k := fun o k n1 n2 n3 n4 n5 => by
    rw [hp4, jhI_1, if_neg (by omega), jhI_1, if_neg (by omega), jhI_1, if_neg (by omega), jhI_1, if_neg (by omega), r2.1 _ _ (by omega), q2.1 _ _ (by omega)]
  have fm4 : eFr xFn hm p4 := by
    have x1 : eFr xFn hm p1 := eFr_mono fp1 (fun o k hk => by
      obtain ⟨rfl, hk⟩ := hk
      by_cases z : k = 1 ∨ k = 3
      · exact Or.inr ⟨rfl, z⟩
      · by_cases z2 : k = 46
        · exact Or.inl (Or.inl (xFm_110 (Or.inl z2)))
        · exact Or.inl (Or.inl (Or.inl (Or.inr (Or.inr ⟨rfl, by omega⟩)))))
    have x2 := eFr_trans x1 (xFn_m (eFr_mono q2 (fun o k hk => xFm_138 hk)))
    have x3 := eFr_trans x2 (xFn_m (eFr_mono r2 (fun o k hk => xFm_142 hk)))
    rw [hp4]
    exact eFr_I (S := xFn) (eFr_I (S := xFn) (eFr_I (S := xFn) (eFr_I (S := xFn) x3 (Or.inl (Or.inl (xFm_144 (by omega)))) _) (Or.inl (Or.inl (xFm_144 (by omega)))) _) (Or.inl (Or.inl (xFm_144 (by omega)))) _) (Or.inl (Or.inl xFm_145)) _
  have R4 : mR n T (-1) (xSk n T 0) p4 := by
    have g : ∀ k, (k = 2 ∨ k = 3 ∨ k = 4 ∨ k = 5 ∨ k = 6) → p4.1 110 k = p1.1 110 k := fun k _ => k14 _ _ (by omega) (by omega) (by omega) (by omega) (by omega)
    refine ⟨xTm_fr tm (fun k => by rw [k14 _ _ (by omega) (by omega) (by omega) (by omega) (by omega), fp1.1 _ _ (by omega)]), eWd_fr (fun o k hk => by rw [k14 _ _ (by omega) (by omega) (by omega) (by omega) (by omega), fp1.1 _ _ (by omega)]) wd, xSk_le (by omega), ⟨0, by omega, rfl, by omega, ?_⟩, ?_, ?_, by omega, ?_, ?_⟩
    · rw [g _ (by omega), hp1]; simp (disch := omega) only [jhI_1, if_neg, if_pos, and_self, if_true]; rfl
    · rw [g _ (by omega), hp1]; simp (disch := omega) only [jhI_1, if_neg, if_pos, and_self, if_true]
    · rw [g _ (by omega), hp1]; simp (disch := omega) only [jhI_1, if_neg, if_pos, and_self, if_true]
    · rw [g _ (by omega), hp1]; simp (disch := omega) only [jhI_1, if_neg, if_pos, and_self, if_true]
    · rw [g _ (by omega), hp1]; simp (disch := omega) only [jhI_1, if_neg, if_pos, and_self, if_true]
  obtain ⟨c4, p5, u1, u2, u3, u4, u5, u6, u7, u8⟩ := told_seats (s0 := 0) hd (Or.inr ⟨-1, xSk n T 0, by omega, b2, R4⟩)
  -- the reference as one
  have i0 : (0 : Int32).toNatClampNeg = 0 := rfl
  have i1 : (1 : Int32).toNatClampNeg = 1 := rfl
  have i2 : (2 : Int32).toNatClampNeg = 2 := rfl
  have q1' : jlim fM_wedding_l40 (0, jhI (jhI (jhI (jhI (jhI (jhI (jhI hm 110 3 (hm.1 110 1)) 110 1 0) 110 2 0) 110 4 (-1)) 110 5 0) 110 6 (-1)) 110 46 0) = some p2 := by
    rw [m1]
    rw [hp1] at q1
    exact q1
  have r1' : jlim fM_wedding_l60 (0, p2) = some p3 := r1
  have mw : fM_wedding hm = Option.bind (fM_asksSign 59 p5) (fun z12 => Option.bind (jlim fM_wedding_l124 (jhI z12 110 47 1)) (fun x17 => kW x17)) := by
    rw [← u2 (Int32 × jH), hp4]
    unfold fM_wedding
    have y3 : ∀ h : jH, (jhI h 110 3 (h.1 110 1)) = jhI h 110 3 (h.1 110 1) := fun _ => rfl
    rw [q1', Option.bind_some, r1', Option.bind_some]
    simp only [i0, i1, i2, if_pos (show jin 0 6 by decide), if_pos (show jin 1 6 by decide), if_pos (show jin 2 6 by decide), if_pos (show jin 0 2 by decide)]
    have k8 : ∀ x : jH, (jhI x 110 7 (x.1 110 5)).1 110 6 = x.1 110 6 := fun x => by rw [jhI_1, if_neg (by omega)]
    simp only [k8]
    rfl
  have cw : fPr_readInto d hc = Option.bind (fRd_wantsSign 59 c4) (fun z4 => Option.bind (jlim (fPr_readInto_l27 d) (1, z4)) (fun x10 => Option.bind (fPn_findFarSets d (if fRd_goesOn x10.2 = 0 then x10.2 else fRd_failHere 5 x10.2)) (fun z13 => some (x10.1, z13)))) := by
    unfold fPr_readInto fRd_begin
    rw [a1, Option.bind_some, show jhI (jhI (jhI (jhI c1 6 2 0) 6 5 0) 6 6 (-1)) 6 3 3 = c2 from hc2.symm, b1, Option.bind_some, Option.bind_some, u1, Option.bind_some]
    congr 1
    funext z4
    congr 1
    funext x10
    unfold fPr_readInto_j81
    split <;> rfl
  have p51 : p5.1 110 1 = jz 0 := by
    rw [u4.1 _ _ (by unfold xFm xg; omega), k14 _ _ (by omega) (by omega) (by omega) (by omega) (by omega), hp1]
    simp (disch := omega) only [jhI_1, if_neg, if_pos, and_self, if_true]
  have n1l : ¬ xFl 110 1 := by unfold xFl xFm xg; omega
  have n1m : ¬ xm 110 1 := by unfold xm; omega
  -- a fault in the first STATEMENT
  have wk4 : xWk d c4 := by
    refine ⟨⟨0, by omega, ?_⟩, fun k hk => ⟨0, by omega, ?_⟩⟩
    · rw [u6 _ _ (by omega) (by omega) (by omega), k3 _ _ (by omega) (by omega)]; exact a3
    · rw [u6 _ _ (by omega) (by omega) (by omega), k3 _ _ (by omega) (by omega)]; exact (a10 k hk).1
  have stop : ∀ {f pl : Int} {c5 m5 : jH}, fRd_wantsSign 59 c4 = some c5 → fM_asksSign 59 p5 = some m5 → cF f pl c5 → mF n T f pl m5 → eFr x6 c4 c5 → eFr xm p5 m5 → ∃ x hc' hm', fPr_readInto d hc = some (x, hc') ∧ fM_wedding hm = kW hm' ∧ eFr (xFd d) hc hc' ∧ eFr xFn hm hm' ∧ hm'.1 110 1 = jz 0 ∧ ((∃ f pl, cF f pl hc' ∧ mF n T f pl hm') ∨ ∃ e' c' g np nh D L, x = jz (c' : Nat) ∧ hm'.1 110 47 = jz (c' : Nat) ∧ cR n T e' n hc' ∧ mR n T e' n hm' ∧ xW d g np nh D L hc' hm' ∧ (∀ k, k < g → hc'.1 (d + 8) k = jz (jfarN g (ePD D) k)) ∧ ∀ k, g ≤ k → k < 8 → hc'.1 (d + 8) k = jz 0) := by
    intro f pl c5 m5 v1 v2 v3 v4 v5 v6
    have m6 := mF_fr (h' := jhI m5 110 47 1) v4 (fun o k hk => by rw [jhI_1, if_neg (by omega)])
    obtain ⟨c6, w1, w2⟩ := far_wk (xWk_6 hdd wk4 v5)
    refine ⟨1, c6, jhI m5 110 47 1, ?_, ?_, eFr_trans fc3 (eFr_trans (xFd_c u3) (eFr_trans (xFd_c (xFc_6 v5)) (eFr_mono w2 (fun o k hk => by unfold xFd; omega)))), ?_, ?_, Or.inl ⟨f, pl, cF_fr v3 (fun k => w2.1 _ _ (by omega)), m6⟩⟩
    · rw [cw, v1, Option.bind_some, l27_F v3, Option.bind_some]
      dsimp only
      rw [goes_F v3, if_pos rfl, w1, Option.bind_some]
    · rw [mw, v2, Option.bind_some, l124_F m6, Option.bind_some]
    · exact eFr_I (S := xFn) (eFr_trans fm4 (xFn_m (eFr_trans u4 (xFm_m v6)))) (Or.inl (Or.inr ⟨rfl, rfl⟩)) _
    · rw [jhI_1, if_neg (by omega), v6.1 _ _ n1m]; exact p51
  rcases u5 with ⟨f, pl, v1, v2⟩ | ⟨e5, s5, -, v1, v2⟩
  · obtain ⟨c5, w1, w2, w3⟩ := sRd_wsignF v1 59
    exact stop w1 (sM_asignF v2 59) w2 v2 w3 (eFr_refl _ _)
  · have me5 := mR_e v2
    obtain ⟨ws1, ws2⟩ := sRd_wsign (c := 59) v1 (by omega) rfl rfl me5.2.1
    obtain ⟨as1, as2⟩ := sM_asign (c := 59) v2 (by omega)
    by_cases h59 : s5 < n ∧ T s5 = 59
    · obtain ⟨c5, w1, w2, w3⟩ := ws2 h59
      obtain ⟨m5, x1, x2, x3⟩ := as2 h59
      obtain ⟨y1, y2, y3, y4, l1, l2, l3, l4, l5, l6, l7, l8, l9, l10⟩ := u8 (fun ⟨f, pl, t⟩ => cR_cF v1 t)
      have X5 : xW d 0 0 0 (eIni y1 y2 y3 y4) [] c5 (jhI m5 110 47 1) := by
        have cc : ∀ o k, d ≤ o → o ≤ d + 11 → c5.1 o k = c4.1 o k := fun o k h1 h2 => w3.1 _ _ (by unfold x6; omega)
        have c41 : ∀ o k, d ≤ o → o ≤ d + 11 → ¬ (o = d ∧ 3 ≤ k ∧ k ≤ 6) → c5.1 o k = c1.1 o k := fun o k h1 h2 h3 => by rw [cc _ _ h1 h2, u6 _ _ h1 h2 h3, k3 _ _ h1 h2]
        have mm : ∀ o k, (o = 138 ∨ o = 140 ∨ o = 141 ∨ o = 142 ∨ o = 143 ∨ o = 144 ∨ o = 145 ∨ o = 146 ∨ o = 147 ∨ (o = 110 ∧ k = 46)) → (jhI m5 110 47 1).1 o k = p5.1 o k := fun o k hk => by rw [jhI_1, if_neg (by omega), x3.1 _ _ (by unfold xm; omega)]
        have m4 : ∀ o k, (o = 138 ∨ o = 141 ∨ o = 142 ∨ o = 143 ∨ o = 144 ∨ o = 145 ∨ o = 146 ∨ o = 147 ∨ (o = 110 ∧ k = 46)) → (jhI m5 110 47 1).1 o k = p4.1 o k := fun o k hk => by rw [mm _ _ (by omega), u7 _ _ hk]
        refine ⟨eIni_b ⟨l1, l2⟩ ⟨l3, l4⟩ ⟨l5, l6⟩ ⟨l7, l8⟩, ⟨⟨?_, ?_, ?_⟩, ?_, ⟨?_, ?_, ?_⟩, fun k hk => by omega, fun k hk => ⟨?_, ?_⟩, ?_, fun j hj => by simp at hj⟩, ⟨⟨?_, ?_, ?_⟩, ?_, ⟨?_, ?_, ?_⟩, fun k hk => by omega, fun k hk => ⟨?_, ?_⟩, ?_, fun _ => ?_, fun t => absurd rfl t⟩, fun k hk => by omega⟩
        · rw [c41 _ _ (by omega) (by omega) (by omega)]; exact a3
        · rw [c41 _ _ (by omega) (by omega) (by omega)]; exact a4
        · rw [c41 _ _ (by omega) (by omega) (by omega)]; exact a5
        · rw [cc _ _ (by omega) (by omega), cc _ _ (by omega) (by omega), cc _ _ (by omega) (by omega), cc _ _ (by omega) (by omega)]; exact l9
        · rw [c41 _ _ (by omega) (by omega) (by omega)]; exact a6
        · rw [c41 _ _ (by omega) (by omega) (by omega)]; exact a7
        · rw [c41 _ _ (by omega) (by omega) (by omega)]; exact a8
        · rw [c41 _ _ (by omega) (by omega) (by omega)]; exact (a10 k hk).1
        · rw [c41 _ _ (by omega) (by omega) (by omega)]; exact (a10 k hk).2.1
        · rw [c41 _ _ (by omega) (by omega) (by omega)]; exact a9
        · rw [m4 _ _ (by omega), hp4, jhI_1, if_neg (by omega), jhI_1, if_neg (by omega), jhI_1, if_neg (by omega), jhI_1, if_neg (by omega), r2.1 _ _ (by omega)]; exact q3 0 (by omega)
        · rw [m4 _ _ (by omega), hp4, jhI_1, if_neg (by omega), jhI_1, if_neg (by omega), jhI_1, if_neg (by omega), jhI_1, if_neg (by omega), r2.1 _ _ (by omega)]; exact q3 1 (by omega)
        · rw [m4 _ _ (by omega), hp4, jhI_1, if_neg (by omega), jhI_1, if_neg (by omega), jhI_1, if_neg (by omega), jhI_1, if_neg (by omega), r2.1 _ _ (by omega)]; exact q3 2 (by omega)
        · rw [mm _ _ (by omega), mm _ _ (by omega), mm _ _ (by omega), mm _ _ (by omega)]; exact l10
        · rw [m4 _ _ (by omega), hp4]; simp (disch := omega) only [jhI_1, if_neg, if_pos, and_self, if_true]; rfl
        · rw [m4 _ _ (by omega), hp4]; simp (disch := omega) only [jhI_1, if_neg, if_pos, and_self, if_true]; rfl
        · rw [m4 _ _ (by omega), hp4]; simp (disch := omega) only [jhI_1, if_neg, if_pos, and_self, if_true]; rfl
        · rw [m4 _ _ (by omega), hp4]; simp (disch := omega) only [jhI_1, if_neg]; exact (r3 k hk).1
        · rw [m4 _ _ (by omega), hp4]; simp (disch := omega) only [jhI_1, if_neg]; exact (r3 k hk).2
        · rw [m4 _ _ (by omega), k14 _ _ (by omega) (by omega) (by omega) (by omega) (by omega), hp1]; simp (disch := omega) only [jhI_1, if_neg, if_pos, and_self, if_true]; rfl
        · rw [m4 _ _ (by omega), hp4]; simp (disch := omega) only [jhI_1, if_neg, if_pos, and_self, if_true]; rfl
      have sg := xSk_ge (n := n) (T := T) (s := s5 + 1)
      obtain ⟨x, hc6, hc7, hm7, t1, t2', t3, t4, t5, t6⟩ := told_loop hd (n - xSk n T (s5 + 1) + 1) (xSk n T (s5 + 1)) (by omega) e5 1 0 0 0 (eIni y1 y2 y3 y4) [] c5 (jhI m5 110 47 1) (by omega) (by omega) w2 (mR_fr x2 (fun o k hk => by rw [jhI_1, if_neg (by omega)])) X5 (by rw [jhI_1, if_pos ⟨rfl, rfl⟩]; rfl)
      have t1' : jlim (fPr_readInto_l27 d) (1, c5) = some (x, hc6) := t1
      have fcx : eFr (xFd d) hc hc7 := eFr_trans fc3 (xFd_c (eFr_trans u3 (eFr_trans (xFc_6 w3) t4)))
      have fmx : eFr xFn hm hm7 := eFr_trans fm4 (eFr_trans (xFn_m (eFr_trans u4 (xFm_m x3))) (eFr_trans (eFr_I (S := xFn) (eFr_refl _ _) (Or.inl (Or.inr ⟨rfl, rfl⟩)) _) (xFn_l t5)))
      have m71 : hm7.1 110 1 = jz 0 := by
        rw [t5.1 _ _ n1l, jhI_1, if_neg (by omega), x3.1 _ _ n1m]; exact p51
      have mwx : fM_wedding hm = kW hm7 := by
        rw [mw, show fM_asksSign 59 p5 = _ from x1, Option.bind_some, t3, Option.bind_some]
      have cwx : fPr_readInto d hc = Option.bind (fPn_findFarSets d hc7) (fun z13 => some (x, z13)) := by
        rw [cw, show fRd_wantsSign 59 c4 = _ from w1, Option.bind_some, t1', Option.bind_some]
        dsimp only
        rw [t2']
      have f8 : ∀ {y z : jH}, eFr (fun o _ => o = d + 8) y z → eFr (xFd d) y z := fun a => eFr_mono a (fun o k hk => by unfold xFd; omega)
      rcases t6 with ⟨f, pl, z1, z2, z3⟩ | ⟨e7, c7, g, np, nh, D, L, z1, z2, z3, z4, z5⟩
      · obtain ⟨c8, k1, k2⟩ := far_wk z3
        exact ⟨x, c8, hm7, by rw [cwx, k1, Option.bind_some], mwx, eFr_trans fcx (f8 k2), fmx, m71, Or.inl ⟨f, pl, cF_fr z1 (fun k => k2.1 _ _ (by omega)), z2⟩⟩
      · obtain ⟨c8, k1, k2, k3', k4'⟩ := far_all (P := ePD D) z5.1.1.1 z5.2.1.1.1 (fun k hk => ⟨(eD7 z5.1.1 hk).2.2, by rw [(z5.2.1.2.2.2.2.1 k hk).1, (eD7 z5.1.1 hk).1]⟩)
        refine ⟨x, c8, hm7, by rw [cwx, k1, Option.bind_some], mwx, eFr_trans fcx (f8 k2), fmx, m71, Or.inr ⟨e7, c7, g, np, nh, D, L, z1, z2, cR_fr z3 (fun o k hk => k2.1 _ _ (by omega)), z4, ⟨z5.1, xDc_fr8 z5.2.1 (fun o k hk => k2.1 _ _ (by omega)), z5.2.2.1, fun k hk => by rw [k2.1 _ _ (by omega)]; exact z5.2.2.2 k hk⟩, k3', fun k hk1 hk2 => by rw [k4' k hk1, (eFr_trans u3 (eFr_trans (xFc_6 w3) t4)).1 _ _ (by unfold xFc; omega), (eFr_trans f12 b3).1 _ _ (by unfold x6; omega)]; exact (a10 k hk2).2.2⟩⟩
    · obtain ⟨c5, w1, w2, w3⟩ := ws1 h59
      obtain ⟨m5, x1, x2, x3⟩ := as1 h59
      exact stop w1 x1 w2 x2 w3 x3
end XU
