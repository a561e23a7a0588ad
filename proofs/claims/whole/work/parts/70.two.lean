/-! PULLS and HEARS, on both sides -/
def xRs (n : Nat) (T : Nat → Nat) (d s0 : Nat) (hc hm : jH) (rc rm : Option jH) : Prop := ∃ hc' hm', rc = some hc' ∧ rm = some hm' ∧ eFr (xFc d) hc hc' ∧ eFr xFm hm hm' ∧ ((∃ f pl, cF f pl hc' ∧ mF n T f pl hm' ∧ xWk d hc') ∨ ∃ e' s' g np nh D L, cR n T e' s' hc' ∧ mR n T e' s' hm' ∧ xW d g np nh D L hc' hm' ∧ s0 < s')
section XD
variable {n : Nat} {T : Nat → Nat} {e : Int} {s s0 d g np nh : Nat} {D : jD} {L : List Int} {h hc hm h' : jH} {f pl : Int}
theorem xFc_I {h1 : jH} {o k : Nat} (a : eFr (xFc d) h h1) (ho : d ≤ o ∧ o ≤ d + 11 ∧ o ≠ d + 8) (v : Int32) : eFr (xFc d) h (jhI h1 o k v) := eFr_I (S := xFc d) a (Or.inr ho) v
theorem p2z (g : Nat) : ((2 ^ g : Nat) : Int) = (2 : Int) ^ g := by simp
theorem known_F (hd : xdd d) (X : xW d g np nh D L hc hm) {hc0 : jH} (fc : eFr x6 hc hc0) (F : cF f pl hc0) {hm0 : jH} (fm : eFr xm hm hm0) (F' : mF n T f pl hm0) : ∃ hc' zm, fPr_readKnownName d hc0 = some (jz (-1), hc') ∧ fM_guestHere hm0 = some (zm, hm0) ∧ eFr x6 hc0 hc' ∧ cF f pl hc' := by
  have g8 := X.1.1.1
  obtain ⟨c1, a1, a2, a3⟩ := sRd_nameF F
  have X1 := xW_s hd X (eFr_trans fc a3) fm
  obtain ⟨r, b1, b2, b3, b4, b5⟩ := named_eq (x := 0) (y := 0) g8 X1.2.1.1.1 X1.2.2.1.1.1 (fun k hk => by
    have := jNm_0 (X1.2.2.2 k hk)
    exact ⟨fun t => absurd t this.1, fun t => absurd t this.2⟩)
  have nn : ∀ m k, k + m = g → jlim (fPn_guestNamed_l2 d 0 c1) (jz k) = some (.inr ()) := by
    intro m
    induction m with
    | zero =>
      intro k hk
      rw [jlim_1]
      show lim1 _ (fPn_guestNamed_l2_b d 0 (jz k) c1) = _
      unfold fPn_guestNamed_l2_b
      rw [X1.2.1.1.1, if_neg (by rw [jz_lt (by omega) (by omega) (by omega) (by omega)]; omega)]
      rfl
    | succ m ih =>
      intro k hk
      have ix : (jz (k : Int)).toNatClampNeg = k := by rw [jz_ix (by omega) (by omega), Int.toNat_natCast]
      rw [jlim_1]
      show lim1 _ (fPn_guestNamed_l2_b d 0 (jz k) c1) = _
      unfold fPn_guestNamed_l2_b
      rw [X1.2.1.1.1, if_pos (by rw [jz_lt (by omega) (by omega) (by omega) (by omega)]; omega), if_pos (by rw [show (8 : Int32) = jz 8 from rfl, jz_lt (by omega) (by omega) (by omega) (by omega)]; omega), if_pos (by rw [jin_z (by omega) (by omega)]; omega), ix, if_neg (jNm_0 (X1.2.2.2 k (by omega))).1, jk1]
      exact ih (k + 1) (by omega)
  have n0 := nn g 0 (by omega)
  have n0' : jlim (fPn_guestNamed_l2 d 0 c1) 0 = some (.inr ()) := n0
  have F3 := sRd_failF a2 3 (hc0.1 6 1)
  refine ⟨_, 0, ?_, ?_, eFr_trans a3 F3.2, F3.1⟩
  · unfold fPr_readKnownName
    rw [a1, Option.bind_some]
    dsimp only
    unfold fPn_guestNamed
    rw [n0', Option.bind_some]
    dsimp only [Sum.elim_inr]
    rw [Option.bind_some, if_pos (show (-1 : Int32) = -1 from rfl)]
    rfl
  · unfold fM_guestHere
    rw [sM_nameF F', Option.bind_some]
    dsimp only
    rw [b4, Option.bind_some, if_neg (mF_5 F')]
    unfold fM_guestHere_j32
    rw [if_neg (mF_5 F')]
theorem xdd_8 (hd : d = 84 ∨ d = 98) : xdd d ∧ (jsh (d + 6)).2 = 8 ∧ (jsh (d + 7)).2 = 8 := by
  rcases hd with rfl | rfl
  · exact ⟨by unfold xdd; omega, jss_90, jss_91⟩
  · exact ⟨by unfold xdd; omega, jss_104, jss_105⟩
theorem two_pulls (hd : d = 84 ∨ d = 98) (X : xW d g np nh D L hc hm) (R : cR n T e s hc) (y : xHas n T e s (xw 9) = true) (R' : mR n T (xRun n T xL s) (xSk n T (xRun n T xL s)) hm) : xRs n T d s hc hm (if hc.1 d 1 < 16 then fPr_readStatement_j57 d 1009 d (d + 6) 1 hc else fPr_readStatement_j57 d 1009 d (d + 6) 0 hc) (fM_pullTold (jz s) hm) := by
  obtain ⟨hdd, h8a, h8b⟩ := xdd_8 hd
  have hdd' := hdd
  unfold xdd at hdd'
  have g8 := X.1.1.1
  have cb : np ≤ 16 ∧ nh ≤ 24 := ⟨X.1.2.2.1, X.1.2.2.2.1⟩
  have ccn : hc.1 d 1 = jz np := X.2.1.1.2.1
  have mcn : hm.1 138 1 = jz np := X.2.2.1.1.2.1
  have me := mR_e R'
  have cl := xHas_L (xw_ok (i := 9) (by omega)).1 (xw_ok (i := 9) (by omega)).2.2.2 y
  have c0 := (xHas_iff.mp y).1.1
  have rg := xRunL_gt c0 cl
  have sg := xSk_ge (n := n) (T := T) (s := xRun n T xL s)
  have fullE := sM_full (i := 1) (c := np) (c' := 16) (p2 := s) R' (by omega) mcn (by omega) (by omega)
  have wk : ∀ {y : jH} {w : Int32}, eFr (xFc d) hc y → xWk d y → xWk d (jhI y d 1 w) := fun f w => xWk_fr w (fun o k hk => by rw [jhI_1, if_neg (by omega)])
  by_cases cf : np = 16
  · -- too many
    rw [if_neg (by rw [ccn, show (16 : Int32) = jz 16 from rfl, jz_lt (by omega) (by omega) (by omega) (by omega)]; omega)]
    have fl := sRd_hereR R (f := 5) (by omega)
    obtain ⟨h5, q1, q2, q3⟩ := fullE.1 (by omega)
    refine ⟨jhI (fRd_failHere (jz 5) hc) d 1 ((fRd_failHere (jz 5) hc).1 d 1 + 1), h5, ?_, ?_, xFc_I (xFc_6 fl.2) (by omega) _, xFm_m q3, Or.inl ⟨5, s, cF_fr fl.1 (fun k => by rw [jhI_1, if_neg (by omega)]), q2, wk (xFc_6 fl.2) (xWk_6 hdd (xW_k X) fl.2)⟩⟩
    · unfold fPr_readStatement_j57 fPr_readTwo
      rw [if_pos rfl, Option.bind_some]
      rfl
    · unfold fM_pullTold
      rw [show fM_isFull 1 16 (jz s) hm = some (1, h5) from q1, Option.bind_some, if_neg (show ¬ (1 : Int32) = 0 by decide)]
  · rw [if_pos (by rw [ccn, show (16 : Int32) = jz 16 from rfl, jz_lt (by omega) (by omega) (by omega) (by omega)]; omega)]
    have q0 := fullE.2 (by omega)
    obtain ⟨hc1, a1, a2, a3⟩ := (sRd_tword (i := 9) R (by omega)).2 y
    have X1 := xW_s hdd X a3 (eFr_refl _ hm)
    obtain ⟨hc2, hm2, z4, z3, b1, b2, b3, b4, b5⟩ := known hdd X1 a2 R'
    have X2 := xW_s hdd X1 b3 b4
    have clc : ∀ (z6 : Int32) (hc3 : jH), fPr_readKnownName d hc2 = some (z6, hc3) → fPr_readStatement_j57 d 1009 d (d + 6) 1 hc = Option.bind (if z4 < 0 then some hc3 else if z4 < 8 then (if z6 < 0 then some hc3 else if z4 = z6 then fPr_readTwo_j84 (d + 6) z4 (fRd_here hc2) z6 hc3 else if jin z4 8 then (if (((hc3.1 (d + 6) z4.toNatClampNeg) >>> (z6 &&& 31)) &&& 1) = 1 then fPr_readTwo_j84 (d + 6) z4 (fRd_here hc2) z6 hc3 else fPr_readTwo_j94 (d + 6) z4 z6 hc3) else none) else some hc3) (fun z => some (jhI z d 1 (z.1 d 1 + 1))) := by
      intro z6 hc3 hk
      unfold fPr_readStatement_j57 fPr_readTwo
      rw [if_neg (show ¬ (1 : Int32) = 0 by decide), show fRd_takesWord 1009 hc = _ from a1, Option.bind_some]
      dsimp only
      rw [b1, Option.bind_some]
      dsimp only
      rw [hk, Option.bind_some, h8a]
      rfl
    have rfm : ∀ (zz : Int32) (hm3 : jH), fM_guestHere hm2 = some (zz, hm3) → fM_pullTold (jz s) hm = (if (hm3.1 110 5) = 0 then (if z3 = zz then fM_pullTold_j48 z3 zz hm3 else (if jin z3 16 then (if (((hm3.1 142 z3.toNatClampNeg) >>> (zz &&& 31)) &&& 1) = 1 then fM_pullTold_j48 z3 zz hm3 else fM_pullTold_j57 z3 zz hm3) else none)) else fM_pullTold_j57 z3 zz hm3) := by
      intro zz hm3 hk
      unfold fM_pullTold
      rw [show fM_isFull 1 16 (jz s) hm = some (0, hm) from q0, Option.bind_some, if_pos rfl]
      dsimp only
      rw [b2, Option.bind_some]
      dsimp only
      rw [hk, Option.bind_some]
    have j57F : ∀ {y : jH} {f pl : Int} {u w : Int32}, mF n T f pl y → fM_pullTold_j57 u w y = some y := by
      intro y f pl u w hy
      unfold fM_pullTold_j57
      rw [if_neg (mF_5 hy)]
    rcases b5 with ⟨rfl, f, pl, b6, b7⟩ | ⟨e2, s2, r1, b6, rfl, rfl, b7, b8, b9, b10⟩
    · -- the first name isn't known
      obtain ⟨hc3, zm, d1, d2, d3, d4⟩ := known_F hdd X1 b3 b6 b4 b7
      have ff : eFr x6 hc hc3 := eFr_trans a3 (eFr_trans b3 d3)
      refine ⟨jhI hc3 d 1 (hc3.1 d 1 + 1), hm2, ?_, ?_, xFc_I (xFc_6 ff) (by omega) _, xFm_m b4, Or.inl ⟨f, pl, cF_fr d4 (fun k => by rw [jhI_1, if_neg (by omega)]), b7, wk (xFc_6 ff) (xWk_6 hdd (xW_k X) ff)⟩⟩
      · rw [clc _ _ d1, if_pos (show jz (-1) < 0 by decide), Option.bind_some]
      · rw [rfm _ _ d2, if_neg (mF_5 b7), j57F b7]
    · have r8 : r1 < 8 := by omega
      obtain ⟨hc3, hm3, z6, zz, d1, d2, d3, d4, d5⟩ := known hdd X2 b7 b8
      have X3 := xW_s hdd X2 d3 d4
      have ff : eFr x6 hc hc3 := eFr_trans a3 (eFr_trans b3 d3)
      have fm : eFr xm hm hm3 := eFr_trans b4 d4
      have n0 : ¬ jz (r1 : Int) < 0 := by rw [show (0 : Int32) = jz 0 from rfl, jz_lt (by omega) (by omega) (by omega) (by omega)]; omega
      have n8 : jz (r1 : Int) < 8 := by rw [show (8 : Int32) = jz 8 from rfl, jz_lt (by omega) (by omega) (by omega) (by omega)]; omega
      have ix : (jz (r1 : Int)).toNatClampNeg = r1 := by rw [jz_ix (by omega) (by omega), Int.toNat_natCast]
      rcases d5 with ⟨rfl, f, pl, d6, d7⟩ | ⟨e3, s3, r2, d6, rfl, rfl, d7, d8, d9, d10⟩
      · -- the second isn't
        refine ⟨jhI hc3 d 1 (hc3.1 d 1 + 1), hm3, ?_, ?_, xFc_I (xFc_6 ff) (by omega) _, xFm_m fm, Or.inl ⟨f, pl, cF_fr d6 (fun k => by rw [jhI_1, if_neg (by omega)]), d7, wk (xFc_6 ff) (xWk_6 hdd (xW_k X) ff)⟩⟩
        · rw [clc _ _ d1, if_neg n0, if_pos n8, if_pos (show jz (-1) < 0 by decide), Option.bind_some]
        · rw [rfm _ _ d2, if_neg (mF_5 d7), j57F d7]
      · have n0' : ¬ jz (r2 : Int) < 0 := by rw [show (0 : Int32) = jz 0 from rfl, jz_lt (by omega) (by omega) (by omega) (by omega)]; omega
        have e7 := eD7 X.1.1 r8
        have cell : hc3.1 (d + 6) r1 = jz (ePD D r1) := by rw [← e7.1]; exact (X3.2.1.2.2.2.2.1 r1 r8).1
        have mcell : hm3.1 142 r1 = jz (ePD D r1) := by rw [← e7.1]; exact (X3.2.2.1.2.2.2.2.1 r1 r8).1
        have bit := jbit_at e7.2.2 (show r2 < 8 by omega)
        have bit' : ((jz (ePD D r1 : Int) >>> (jz (r2 : Int) &&& 31)) &&& 1) = if (ePD D r1).testBit r2 then jz 1 else jz 0 := bit
        have sh : ((1 : Int32) <<< (jz (r2 : Int) &&& 31)) = jz ((2 ^ r2 : Nat) : Int) := jbit_shl (show r2 < 20 by omega)
        have j94 : ∀ y : jH, y.1 (d + 6) r1 = jz (ePD D r1) → fPr_readTwo_j94 (d + 6) (jz r1) (jz r2) y = some (jhI y (d + 6) r1 (jz ((ePD D r1 ||| 2 ^ r2 : Nat) : Int))) := by
          intro y hy
          unfold fPr_readTwo_j94
          rw [h8a, if_pos (by rw [jin_z (by omega) (by omega)]; omega), if_pos (by rw [jin_z (by omega) (by omega)]; omega), ix, hy, sh, jbit_or]
        have lt256 : (ePD D r1 ||| 2 ^ r2) < 256 := Nat.or_lt_two_pow (n := 8) e7.2.2 (by
          have : 2 ^ r2 ≤ 2 ^ 7 := Nat.pow_le_pow_right (by omega) (by omega)
          omega)
        have same : (r1 = r2 ∨ (ePD D r1).testBit r2 = true) → xRs n T d s hc hm (fPr_readStatement_j57 d 1009 d (d + 6) 1 hc) (fM_pullTold (jz s) hm) := by
          intro hs
          have F3 := sRd_failR (pl := (s2 : Int)) d7 (f := 3) (by omega)
          have G3 := sM_failM (p2 := (s2 : Int)) d8 (f := 3) (by omega)
          have cell2 : (fRd_fail (jz 3) (jz s2) hc3).1 (d + 6) r1 = jz (ePD D r1) := by rw [F3.2.1 _ _ (by unfold x6; omega)]; exact cell
          have j84 : fPr_readTwo_j84 (d + 6) (jz r1) (fRd_here hc2) (jz r2) hc3 = some (jhI (fRd_fail (jz 3) (jz s2) hc3) (d + 6) r1 (jz ((ePD D r1 ||| 2 ^ r2 : Nat) : Int))) := by
            unfold fPr_readTwo_j84 fRd_here
            rw [b7.2.2.2.1]
            exact j94 _ cell2
          have j48 : fM_pullTold_j48 (jz r1) (jz r2) hm3 = some (fM_fail (jz 3) (jz s2) hm3) := by
            unfold fM_pullTold_j48
            rw [d10]
            exact j57F G3.1
          have fF := eFr_trans ff F3.2
          refine ⟨jhI (jhI (fRd_fail (jz 3) (jz s2) hc3) (d + 6) r1 (jz ((ePD D r1 ||| 2 ^ r2 : Nat) : Int))) d 1 ((jhI (fRd_fail (jz 3) (jz s2) hc3) (d + 6) r1 (jz ((ePD D r1 ||| 2 ^ r2 : Nat) : Int))).1 d 1 + 1), _, ?_, ?_, xFc_I (xFc_I (xFc_6 fF) (by omega) _) (by omega) _, xFm_m (eFr_trans fm G3.2), Or.inl ⟨3, s2, cF_fr F3.1 (fun k => by rw [jhI_1, if_neg (by omega), jhI_1, if_neg (by omega)]), G3.1, ?_⟩⟩
          · rw [clc _ _ d1, if_neg n0, if_pos n8, if_neg n0']
            by_cases q : r1 = r2
            · rw [if_pos (by rw [q]), j84, Option.bind_some]
            · rw [if_neg (by rw [jz_eq (by omega) (by omega) (by omega) (by omega)]; omega), if_pos (by rw [jin_z (by omega) (by omega)]; omega), ix, cell, bit', if_pos (hs.resolve_left q), if_pos (show jz 1 = 1 from rfl), j84, Option.bind_some]
          · rw [rfm _ _ d2, mR_5 d8, if_pos rfl]
            by_cases q : r1 = r2
            · rw [if_pos (by rw [q]), j48]
            · rw [if_neg (by rw [jz_eq (by omega) (by omega) (by omega) (by omega)]; omega), if_pos (by rw [jin_z (by omega) (by omega)]; omega), ix, mcell, bit', if_pos (hs.resolve_left q), if_pos (show jz 1 = 1 from rfl), j48]
          · have w0 := xWk_6 hdd (xW_k X) fF
            refine ⟨?_, fun k hk => ?_⟩
            · obtain ⟨gg, g1, g2⟩ := w0.1
              exact ⟨gg, g1, by rw [jhI_1, if_neg (by omega), jhI_1, if_neg (by omega)]; exact g2⟩
            · rw [jhI_1, if_neg (by omega), jhI_1]
              by_cases q : d + 6 = d + 6 ∧ k = r1
              · exact ⟨_, lt256, by rw [if_pos q]⟩
              · rw [if_neg q]; exact w0.2 k hk
        by_cases q : r1 = r2
        · exact same (Or.inl q)
        · by_cases qb : (ePD D r1).testBit r2 = true
          · exact same (Or.inr qb)
          · -- told
            have qne : ¬ jz (r1 : Int) = jz (r2 : Int) := by rw [jz_eq (by omega) (by omega) (by omega) (by omega)]; omega
            obtain ⟨v, hv⟩ : ∃ v : Int, v = ((ePD D r1 ||| 2 ^ r2 : Nat) : Int) := ⟨_, rfl⟩
            have lg : (ePD D r1 ||| 2 ^ r2) < 2 ^ g := Nat.or_lt_two_pow e7.2.1 (Nat.pow_lt_pow_right (by omega) (by omega))
            have vb : 0 ≤ v ∧ v < (2 : Int) ^ g := by
              rw [hv, ← p2z]
              exact ⟨by omega, by omega⟩
            have ec : hc3.1 d 1 + 1 = jz ((np + 1 : Nat) : Int) := by
              have : hc3.1 d 1 = jz np := X3.2.1.1.2.1
              rw [this, jk1]
            have em : hm3.1 138 1 + 1 = jz ((np + 1 : Nat) : Int) := by
              have : hm3.1 138 1 = jz np := X3.2.2.1.1.2.1
              rw [this, jk1]
            have upd : ∀ a k, eUp D 7 r1 v a k = if a = 7 ∧ k = r1 then v else D a k := fun a k => rfl
            refine ⟨jhI (jhI hc3 (d + 6) r1 (jz v)) d 1 (jz ((np + 1 : Nat) : Int)), jhI (jhI hm3 142 r1 (jz v)) 138 1 (jz ((np + 1 : Nat) : Int)), ?_, ?_, xFc_I (xFc_I (xFc_6 ff) (by omega) _) (by omega) _, eFr_I (S := xFm) (eFr_I (S := xFm) (xFm_m fm) (by unfold xFm; omega) _) (by unfold xFm; omega) _, Or.inr ⟨e3, s3, g, np + 1, nh, eUp D 7 r1 v, L, cR_fr d7 (fun o k hk => by rw [jhI_1, if_neg (by omega), jhI_1, if_neg (by omega)]), mR_fr d8 (fun o k hk => by rw [jhI_1, if_neg (by omega), jhI_1, if_neg (by omega)]), ⟨?_, ?_, ?_, ?_⟩, by omega⟩⟩
            · rw [clc _ _ d1, if_neg n0, if_pos n8, if_neg n0', if_neg qne, if_pos (by rw [jin_z (by omega) (by omega)]; omega), ix, cell, bit', if_neg qb, if_neg (show ¬ jz 0 = 1 by decide), j94 _ cell, Option.bind_some, jhI_1, if_neg (by omega), ec, hv]
            · rw [rfm _ _ d2, mR_5 d8, if_pos rfl, if_neg qne, if_pos (by rw [jin_z (by omega) (by omega)]; omega), ix, mcell, bit', if_neg qb, if_neg (show ¬ jz 0 = 1 by decide)]
              unfold fM_pullTold_j57
              rw [mR_5 d8, if_pos rfl, if_pos (by rw [jin_z (by omega) (by omega)]; omega), if_pos (by rw [jin_z (by omega) (by omega)]; omega), if_pos (by decide), if_pos (by decide), ix, mcell, sh, jbit_or, ← hv]
              show some (jhI (jhI hm3 142 r1 (jz v)) 138 1 ((jhI hm3 142 r1 (jz v)).1 138 1 + 1)) = _
              rw [jhI_1, if_neg (by omega), em]
            · obtain ⟨⟨w1, w2, w3, w4, w5⟩, w6, w7⟩ := X.1
              refine ⟨⟨w1, w2, w3, w4, fun k hk => ?_⟩, w6, by omega, by omega, w7.2.2⟩
              have := w5 k hk
              rw [upd 7 k, upd 8 k]
              by_cases z : k = r1
              · subst z
                simp only [show (8 : Nat) = 7 ↔ False from ⟨by omega, fun t => t.elim⟩, false_and, and_self, true_and, if_true, if_false]
                exact ⟨vb.1, vb.2, this.2.2.1, this.2.2.2⟩
              · rw [if_neg (fun t => z t.2), if_neg (fun t => z t.2)]; exact this
            · have x := X3.2.1
              unfold xDc at x ⊢
              refine ⟨⟨?_, ?_, ?_⟩, ?_, ?_, fun k hk => ?_, fun k hk => ?_, ?_, fun j hj => ?_⟩
              · simp (disch := omega) only [jhI_1, if_neg]; exact x.1.1
              · rw [jhI_1, if_pos ⟨rfl, rfl⟩]
              · simp (disch := omega) only [jhI_1, if_neg]; exact x.1.2.2
              · simp (disch := omega) only [jhI_1, if_neg]; exact x.2.1
              · simp (disch := omega) only [jhI_1, if_neg]; exact x.2.2.1
              · simp (disch := omega) only [jhI_1, if_neg]; exact x.2.2.2.1 k hk
              · have x5 := x.2.2.2.2.1 k hk
                rw [upd 7 k, upd 8 k]
                by_cases z : k = r1
                · subst z
                  simp (disch := omega) only [jhI_1, if_neg, if_pos, and_self, true_and]
                  exact ⟨by simp only [if_true], x5.2⟩
                · simp (disch := omega) only [jhI_1, if_neg]
                  exact x5
              · simp (disch := omega) only [jhI_1, if_neg]; exact x.2.2.2.2.2.1
              · simp (disch := omega) only [jhI_1, if_neg]; exact x.2.2.2.2.2.2 j hj
            · have x := X3.2.2.1
              unfold xDm at x ⊢
              refine ⟨⟨?_, ?_, ?_⟩, ?_, ?_, fun k hk => ?_, fun k hk => ?_, ?_⟩
              · simp (disch := omega) only [jhI_1, if_neg]; exact x.1.1
              · rw [jhI_1, if_pos ⟨rfl, rfl⟩]
              · simp (disch := omega) only [jhI_1, if_neg]; exact x.1.2.2
              · simp (disch := omega) only [jhI_1, if_neg]; exact x.2.1
              · simp (disch := omega) only [jhI_1, if_neg]; exact x.2.2.1
              · simp (disch := omega) only [jhI_1, if_neg]; exact x.2.2.2.1 k hk
              · have x5 := x.2.2.2.2.1 k hk
                rw [upd 7 k, upd 8 k]
                by_cases z : k = r1
                · subst z
                  simp (disch := omega) only [jhI_1, if_neg, if_pos, and_self, true_and]
                  exact ⟨by simp only [if_true], x5.2⟩
                · simp (disch := omega) only [jhI_1, if_neg]
                  exact x5
              · simp (disch := omega) only [jhI_1, if_neg]; exact x.2.2.2.2.2
            · intro k hk
              simp (disch := omega) only [jhI_1, jhI_2, if_neg]
              exact X3.2.2.2 k hk
theorem two_hears (hd : d = 84 ∨ d = 98) (X : xW d g np nh D L hc hm) (R : cR n T e s hc) (y : xHas n T e s (xw 10) = true) (R' : mR n T (xRun n T xL s) (xSk n T (xRun n T xL s)) hm) : xRs n T d s hc hm (if hc.1 d 2 < 24 then fPr_readStatement_j109 d 1010 d (d + 7) 1 hc else fPr_readStatement_j109 d 1010 d (d + 7) 0 hc) (fM_hearTold (jz s) hm) := by
  obtain ⟨hdd, h8a, h8b⟩ := xdd_8 hd
  have hdd' := hdd
  unfold xdd at hdd'
  have g8 := X.1.1.1
  have cb : np ≤ 16 ∧ nh ≤ 24 := ⟨X.1.2.2.1, X.1.2.2.2.1⟩
  have ccn : hc.1 d 2 = jz nh := X.2.1.1.2.2
  have mcn : hm.1 138 2 = jz nh := X.2.2.1.1.2.2
  have me := mR_e R'
  have cl := xHas_L (xw_ok (i := 10) (by omega)).1 (xw_ok (i := 10) (by omega)).2.2.2 y
  have c0 := (xHas_iff.mp y).1.1
  have rg := xRunL_gt c0 cl
  have sg := xSk_ge (n := n) (T := T) (s := xRun n T xL s)
  have fullE := sM_full (i := 2) (c := nh) (c' := 24) (p2 := s) R' (by omega) mcn (by omega) (by omega)
  have wk : ∀ {y : jH} {w : Int32}, eFr (xFc d) hc y → xWk d y → xWk d (jhI y d 2 w) := fun f w => xWk_fr w (fun o k hk => by rw [jhI_1, if_neg (by omega)])
  by_cases cf : nh = 24
  · -- too many
    rw [if_neg (by rw [ccn, show (24 : Int32) = jz 24 from rfl, jz_lt (by omega) (by omega) (by omega) (by omega)]; omega)]
    have fl := sRd_hereR R (f := 5) (by omega)
    obtain ⟨h5, q1, q2, q3⟩ := fullE.1 (by omega)
    refine ⟨jhI (fRd_failHere (jz 5) hc) d 2 ((fRd_failHere (jz 5) hc).1 d 2 + 1), h5, ?_, ?_, xFc_I (xFc_6 fl.2) (by omega) _, xFm_m q3, Or.inl ⟨5, s, cF_fr fl.1 (fun k => by rw [jhI_1, if_neg (by omega)]), q2, wk (xFc_6 fl.2) (xWk_6 hdd (xW_k X) fl.2)⟩⟩
    · unfold fPr_readStatement_j109 fPr_readTwo
      rw [if_pos rfl, Option.bind_some]
      rfl
    · unfold fM_hearTold
      rw [show fM_isFull 2 24 (jz s) hm = some (1, h5) from q1, Option.bind_some, if_neg (show ¬ (1 : Int32) = 0 by decide)]
  · rw [if_pos (by rw [ccn, show (24 : Int32) = jz 24 from rfl, jz_lt (by omega) (by omega) (by omega) (by omega)]; omega)]
    have q0 := fullE.2 (by omega)
    obtain ⟨hc1, a1, a2, a3⟩ := (sRd_tword (i := 10) R (by omega)).2 y
    have X1 := xW_s hdd X a3 (eFr_refl _ hm)
    obtain ⟨hc2, hm2, z4, z3, b1, b2, b3, b4, b5⟩ := known hdd X1 a2 R'
    have X2 := xW_s hdd X1 b3 b4
    have clc : ∀ (z6 : Int32) (hc3 : jH), fPr_readKnownName d hc2 = some (z6, hc3) → fPr_readStatement_j109 d 1010 d (d + 7) 1 hc = Option.bind (if z4 < 0 then some hc3 else if z4 < 8 then (if z6 < 0 then some hc3 else if z4 = z6 then fPr_readTwo_j84 (d + 7) z4 (fRd_here hc2) z6 hc3 else if jin z4 8 then (if (((hc3.1 (d + 7) z4.toNatClampNeg) >>> (z6 &&& 31)) &&& 1) = 1 then fPr_readTwo_j84 (d + 7) z4 (fRd_here hc2) z6 hc3 else fPr_readTwo_j94 (d + 7) z4 z6 hc3) else none) else some hc3) (fun z => some (jhI z d 2 (z.1 d 2 + 1))) := by
      intro z6 hc3 hk
      unfold fPr_readStatement_j109 fPr_readTwo
      rw [if_neg (show ¬ (1 : Int32) = 0 by decide), show fRd_takesWord 1010 hc = _ from a1, Option.bind_some]
      dsimp only
      rw [b1, Option.bind_some]
      dsimp only
      rw [hk, Option.bind_some, h8b]
      rfl
    have rfm : ∀ (zz : Int32) (hm3 : jH), fM_guestHere hm2 = some (zz, hm3) → fM_hearTold (jz s) hm = (if (hm3.1 110 5) = 0 then (if z3 = zz then fM_hearTold_j48 z3 zz hm3 else (if jin z3 16 then (if (((hm3.1 143 z3.toNatClampNeg) >>> (zz &&& 31)) &&& 1) = 1 then fM_hearTold_j48 z3 zz hm3 else fM_hearTold_j57 z3 zz hm3) else none)) else fM_hearTold_j57 z3 zz hm3) := by
      intro zz hm3 hk
      unfold fM_hearTold
      rw [show fM_isFull 2 24 (jz s) hm = some (0, hm) from q0, Option.bind_some, if_pos rfl]
      dsimp only
      rw [b2, Option.bind_some]
      dsimp only
      rw [hk, Option.bind_some]
    have j57F : ∀ {y : jH} {f pl : Int} {u w : Int32}, mF n T f pl y → fM_hearTold_j57 u w y = some y := by
      intro y f pl u w hy
      unfold fM_hearTold_j57
      rw [if_neg (mF_5 hy)]
    rcases b5 with ⟨rfl, f, pl, b6, b7⟩ | ⟨e2, s2, r1, b6, rfl, rfl, b7, b8, b9, b10⟩
    · -- the first name isn't known
      obtain ⟨hc3, zm, d1, d2, d3, d4⟩ := known_F hdd X1 b3 b6 b4 b7
      have ff : eFr x6 hc hc3 := eFr_trans a3 (eFr_trans b3 d3)
      refine ⟨jhI hc3 d 2 (hc3.1 d 2 + 1), hm2, ?_, ?_, xFc_I (xFc_6 ff) (by omega) _, xFm_m b4, Or.inl ⟨f, pl, cF_fr d4 (fun k => by rw [jhI_1, if_neg (by omega)]), b7, wk (xFc_6 ff) (xWk_6 hdd (xW_k X) ff)⟩⟩
      · rw [clc _ _ d1, if_pos (show jz (-1) < 0 by decide), Option.bind_some]
      · rw [rfm _ _ d2, if_neg (mF_5 b7), j57F b7]
    · have r8 : r1 < 8 := by omega
      obtain ⟨hc3, hm3, z6, zz, d1, d2, d3, d4, d5⟩ := known hdd X2 b7 b8
      have X3 := xW_s hdd X2 d3 d4
      have ff : eFr x6 hc hc3 := eFr_trans a3 (eFr_trans b3 d3)
      have fm : eFr xm hm hm3 := eFr_trans b4 d4
      have n0 : ¬ jz (r1 : Int) < 0 := by rw [show (0 : Int32) = jz 0 from rfl, jz_lt (by omega) (by omega) (by omega) (by omega)]; omega
      have n8 : jz (r1 : Int) < 8 := by rw [show (8 : Int32) = jz 8 from rfl, jz_lt (by omega) (by omega) (by omega) (by omega)]; omega
      have ix : (jz (r1 : Int)).toNatClampNeg = r1 := by rw [jz_ix (by omega) (by omega), Int.toNat_natCast]
      rcases d5 with ⟨rfl, f, pl, d6, d7⟩ | ⟨e3, s3, r2, d6, rfl, rfl, d7, d8, d9, d10⟩
      · -- the second isn't
        refine ⟨jhI hc3 d 2 (hc3.1 d 2 + 1), hm3, ?_, ?_, xFc_I (xFc_6 ff) (by omega) _, xFm_m fm, Or.inl ⟨f, pl, cF_fr d6 (fun k => by rw [jhI_1, if_neg (by omega)]), d7, wk (xFc_6 ff) (xWk_6 hdd (xW_k X) ff)⟩⟩
        · rw [clc _ _ d1, if_neg n0, if_pos n8, if_pos (show jz (-1) < 0 by decide), Option.bind_some]
        · rw [rfm _ _ d2, if_neg (mF_5 d7), j57F d7]
      · have n0' : ¬ jz (r2 : Int) < 0 := by rw [show (0 : Int32) = jz 0 from rfl, jz_lt (by omega) (by omega) (by omega) (by omega)]; omega
        have e7 := eD8 X.1.1 r8
        have cell : hc3.1 (d + 7) r1 = jz (eHD D r1) := by rw [← e7.1]; exact (X3.2.1.2.2.2.2.1 r1 r8).2
        have mcell : hm3.1 143 r1 = jz (eHD D r1) := by rw [← e7.1]; exact (X3.2.2.1.2.2.2.2.1 r1 r8).2
        have bit := jbit_at e7.2.2 (show r2 < 8 by omega)
        have bit' : ((jz (eHD D r1 : Int) >>> (jz (r2 : Int) &&& 31)) &&& 1) = if (eHD D r1).testBit r2 then jz 1 else jz 0 := bit
        have sh : ((1 : Int32) <<< (jz (r2 : Int) &&& 31)) = jz ((2 ^ r2 : Nat) : Int) := jbit_shl (show r2 < 20 by omega)
        have j94 : ∀ y : jH, y.1 (d + 7) r1 = jz (eHD D r1) → fPr_readTwo_j94 (d + 7) (jz r1) (jz r2) y = some (jhI y (d + 7) r1 (jz ((eHD D r1 ||| 2 ^ r2 : Nat) : Int))) := by
          intro y hy
          unfold fPr_readTwo_j94
          rw [h8b, if_pos (by rw [jin_z (by omega) (by omega)]; omega), if_pos (by rw [jin_z (by omega) (by omega)]; omega), ix, hy, sh, jbit_or]
        have lt256 : (eHD D r1 ||| 2 ^ r2) < 256 := Nat.or_lt_two_pow (n := 8) e7.2.2 (by
          have : 2 ^ r2 ≤ 2 ^ 7 := Nat.pow_le_pow_right (by omega) (by omega)
          omega)
        have same : (r1 = r2 ∨ (eHD D r1).testBit r2 = true) → xRs n T d s hc hm (fPr_readStatement_j109 d 1010 d (d + 7) 1 hc) (fM_hearTold (jz s) hm) := by
          intro hs
          have F3 := sRd_failR (pl := (s2 : Int)) d7 (f := 3) (by omega)
          have G3 := sM_failM (p2 := (s2 : Int)) d8 (f := 3) (by omega)
          have cell2 : (fRd_fail (jz 3) (jz s2) hc3).1 (d + 7) r1 = jz (eHD D r1) := by rw [F3.2.1 _ _ (by unfold x6; omega)]; exact cell
          have j84 : fPr_readTwo_j84 (d + 7) (jz r1) (fRd_here hc2) (jz r2) hc3 = some (jhI (fRd_fail (jz 3) (jz s2) hc3) (d + 7) r1 (jz ((eHD D r1 ||| 2 ^ r2 : Nat) : Int))) := by
            unfold fPr_readTwo_j84 fRd_here
            rw [b7.2.2.2.1]
            exact j94 _ cell2
          have j48 : fM_hearTold_j48 (jz r1) (jz r2) hm3 = some (fM_fail (jz 3) (jz s2) hm3) := by
            unfold fM_hearTold_j48
            rw [d10]
            exact j57F G3.1
          have fF := eFr_trans ff F3.2
          refine ⟨jhI (jhI (fRd_fail (jz 3) (jz s2) hc3) (d + 7) r1 (jz ((eHD D r1 ||| 2 ^ r2 : Nat) : Int))) d 2 ((jhI (fRd_fail (jz 3) (jz s2) hc3) (d + 7) r1 (jz ((eHD D r1 ||| 2 ^ r2 : Nat) : Int))).1 d 2 + 1), _, ?_, ?_, xFc_I (xFc_I (xFc_6 fF) (by omega) _) (by omega) _, xFm_m (eFr_trans fm G3.2), Or.inl ⟨3, s2, cF_fr F3.1 (fun k => by rw [jhI_1, if_neg (by omega), jhI_1, if_neg (by omega)]), G3.1, ?_⟩⟩
          · rw [clc _ _ d1, if_neg n0, if_pos n8, if_neg n0']
            by_cases q : r1 = r2
            · rw [if_pos (by rw [q]), j84, Option.bind_some]
            · rw [if_neg (by rw [jz_eq (by omega) (by omega) (by omega) (by omega)]; omega), if_pos (by rw [jin_z (by omega) (by omega)]; omega), ix, cell, bit', if_pos (hs.resolve_left q), if_pos (show jz 1 = 1 from rfl), j84, Option.bind_some]
          · rw [rfm _ _ d2, mR_5 d8, if_pos rfl]
            by_cases q : r1 = r2
            · rw [if_pos (by rw [q]), j48]
            · rw [if_neg (by rw [jz_eq (by omega) (by omega) (by omega) (by omega)]; omega), if_pos (by rw [jin_z (by omega) (by omega)]; omega), ix, mcell, bit', if_pos (hs.resolve_left q), if_pos (show jz 1 = 1 from rfl), j48]
          · have w0 := xWk_6 hdd (xW_k X) fF
            refine ⟨?_, fun k hk => ?_⟩
            · obtain ⟨gg, g1, g2⟩ := w0.1
              exact ⟨gg, g1, by rw [jhI_1, if_neg (by omega), jhI_1, if_neg (by omega)]; exact g2⟩
            · rw [jhI_1, if_neg (by omega), jhI_1]
              by_cases q : d + 6 = d + 7 ∧ k = r1
              · exact ⟨_, lt256, by rw [if_pos q]⟩
              · rw [if_neg q]; exact w0.2 k hk
        by_cases q : r1 = r2
        · exact same (Or.inl q)
        · by_cases qb : (eHD D r1).testBit r2 = true
          · exact same (Or.inr qb)
          · -- told
            have qne : ¬ jz (r1 : Int) = jz (r2 : Int) := by rw [jz_eq (by omega) (by omega) (by omega) (by omega)]; omega
            obtain ⟨v, hv⟩ : ∃ v : Int, v = ((eHD D r1 ||| 2 ^ r2 : Nat) : Int) := ⟨_, rfl⟩
            have lg : (eHD D r1 ||| 2 ^ r2) < 2 ^ g := Nat.or_lt_two_pow e7.2.1 (Nat.pow_lt_pow_right (by omega) (by omega))
            have vb : 0 ≤ v ∧ v < (2 : Int) ^ g := by
              rw [hv, ← p2z]
              exact ⟨by omega, by omega⟩
            have ec : hc3.1 d 2 + 1 = jz ((nh + 1 : Nat) : Int) := by
              have : hc3.1 d 2 = jz nh := X3.2.1.1.2.2
              rw [this, jk1]
            have em : hm3.1 138 2 + 1 = jz ((nh + 1 : Nat) : Int) := by
              have : hm3.1 138 2 = jz nh := X3.2.2.1.1.2.2
              rw [this, jk1]
            have upd : ∀ a k, eUp D 8 r1 v a k = if a = 8 ∧ k = r1 then v else D a k := fun a k => rfl
            refine ⟨jhI (jhI hc3 (d + 7) r1 (jz v)) d 2 (jz ((nh + 1 : Nat) : Int)), jhI (jhI hm3 143 r1 (jz v)) 138 2 (jz ((nh + 1 : Nat) : Int)), ?_, ?_, xFc_I (xFc_I (xFc_6 ff) (by omega) _) (by omega) _, eFr_I (S := xFm) (eFr_I (S := xFm) (xFm_m fm) (by unfold xFm; omega) _) (by unfold xFm; omega) _, Or.inr ⟨e3, s3, g, np, nh + 1, eUp D 8 r1 v, L, cR_fr d7 (fun o k hk => by rw [jhI_1, if_neg (by omega), jhI_1, if_neg (by omega)]), mR_fr d8 (fun o k hk => by rw [jhI_1, if_neg (by omega), jhI_1, if_neg (by omega)]), ⟨?_, ?_, ?_, ?_⟩, by omega⟩⟩
            · rw [clc _ _ d1, if_neg n0, if_pos n8, if_neg n0', if_neg qne, if_pos (by rw [jin_z (by omega) (by omega)]; omega), ix, cell, bit', if_neg qb, if_neg (show ¬ jz 0 = 1 by decide), j94 _ cell, Option.bind_some, jhI_1, if_neg (by omega), ec, hv]
            · rw [rfm _ _ d2, mR_5 d8, if_pos rfl, if_neg qne, if_pos (by rw [jin_z (by omega) (by omega)]; omega), ix, mcell, bit', if_neg qb, if_neg (show ¬ jz 0 = 1 by decide)]
              unfold fM_hearTold_j57
              rw [mR_5 d8, if_pos rfl, if_pos (by rw [jin_z (by omega) (by omega)]; omega), if_pos (by rw [jin_z (by omega) (by omega)]; omega), if_pos (by decide), if_pos (by decide), ix, mcell, sh, jbit_or, ← hv]
              show some (jhI (jhI hm3 143 r1 (jz v)) 138 2 ((jhI hm3 143 r1 (jz v)).1 138 2 + 1)) = _
              rw [jhI_1, if_neg (by omega), em]
            · obtain ⟨⟨w1, w2, w3, w4, w5⟩, w6, w7⟩ := X.1
              refine ⟨⟨w1, w2, w3, w4, fun k hk => ?_⟩, w6, by omega, by omega, w7.2.2⟩
              have := w5 k hk
              rw [upd 7 k, upd 8 k]
              by_cases z : k = r1
              · subst z
                simp only [show (7 : Nat) = 8 ↔ False from ⟨by omega, fun t => t.elim⟩, false_and, and_self, true_and, if_true, if_false]
                exact ⟨this.1, this.2.1, vb.1, vb.2⟩
              · rw [if_neg (fun t => z t.2), if_neg (fun t => z t.2)]; exact this
            · have x := X3.2.1
              unfold xDc at x ⊢
              refine ⟨⟨?_, ?_, ?_⟩, ?_, ?_, fun k hk => ?_, fun k hk => ?_, ?_, fun j hj => ?_⟩
              · simp (disch := omega) only [jhI_1, if_neg]; exact x.1.1
              · simp (disch := omega) only [jhI_1, if_neg]; exact x.1.2.1
              · rw [jhI_1, if_pos ⟨rfl, rfl⟩]
              · simp (disch := omega) only [jhI_1, if_neg]; exact x.2.1
              · simp (disch := omega) only [jhI_1, if_neg]; exact x.2.2.1
              · simp (disch := omega) only [jhI_1, if_neg]; exact x.2.2.2.1 k hk
              · have x5 := x.2.2.2.2.1 k hk
                rw [upd 7 k, upd 8 k]
                by_cases z : k = r1
                · subst z
                  simp (disch := omega) only [jhI_1, if_neg, if_pos, and_self, true_and]
                  exact ⟨x5.1, by simp only [if_true]⟩
                · simp (disch := omega) only [jhI_1, if_neg]
                  exact x5
              · simp (disch := omega) only [jhI_1, if_neg]; exact x.2.2.2.2.2.1
              · simp (disch := omega) only [jhI_1, if_neg]; exact x.2.2.2.2.2.2 j hj
            · have x := X3.2.2.1
              unfold xDm at x ⊢
              refine ⟨⟨?_, ?_, ?_⟩, ?_, ?_, fun k hk => ?_, fun k hk => ?_, ?_⟩
              · simp (disch := omega) only [jhI_1, if_neg]; exact x.1.1
              · simp (disch := omega) only [jhI_1, if_neg]; exact x.1.2.1
              · rw [jhI_1, if_pos ⟨rfl, rfl⟩]
              · simp (disch := omega) only [jhI_1, if_neg]; exact x.2.1
              · simp (disch := omega) only [jhI_1, if_neg]; exact x.2.2.1
              · simp (disch := omega) only [jhI_1, if_neg]; exact x.2.2.2.1 k hk
              · have x5 := x.2.2.2.2.1 k hk
                rw [upd 7 k, upd 8 k]
                by_cases z : k = r1
                · subst z
                  simp (disch := omega) only [jhI_1, if_neg, if_pos, and_self, true_and]
                  exact ⟨x5.1, by simp only [if_true]⟩
                · simp (disch := omega) only [jhI_1, if_neg]
                  exact x5
              · simp (disch := omega) only [jhI_1, if_neg]; exact x.2.2.2.2.2
            · intro k hk
              simp (disch := omega) only [jhI_1, jhI_2, if_neg]
              exact X3.2.2.2 k hk
end XD
