/-! all STATEMENTS, on both sides -/
def xFl (o k : Nat) : Prop := xFm o k ∨ (o = 110 ∧ k = 47)
section XJ
variable {n : Nat} {T : Nat → Nat} {e : Int} {s s0 d g np nh : Nat} {D : jD} {L : List Int} {h hc hm h' : jH} {f pl : Int}
theorem xFl_m (a : eFr xFm h h') : eFr xFl h h' := eFr_mono a (fun o k hk => Or.inl hk)
theorem n47 : ¬ xFm 110 47 := by
  unfold xFm xg
  omega
theorem goes_F (R : cF f pl hc) : fRd_goesOn hc = 0 := by
  unfold fRd_goesOn
  rw [R.2.2.2.2, if_neg (by decide), if_pos (show jz 5 = 5 from rfl)]
theorem goes_R (R : cR n T e s hc) : (s < n → fRd_goesOn hc = 1) ∧ (¬ s < n → fRd_goesOn hc = 0) := by
  have k := R.2.2.2.2.2.1
  have kb := xKd_b (n := n) (T := T) (e := e) (s := s)
  unfold fRd_goesOn
  rw [k]
  constructor
  · intro h
    have : 1 ≤ xKd n T e s := by
      unfold xKd
      rw [if_pos h]
      split
      · split <;> omega
      · split
        · split <;> omega
        · omega
    rw [if_neg (by rw [show (0 : Int32) = jz 0 from rfl, jz_eq (by omega) (by omega) (by omega) (by omega)]; omega), if_neg (by rw [show (5 : Int32) = jz 5 from rfl, jz_eq (by omega) (by omega) (by omega) (by omega)]; omega)]
  · intro h
    have : xKd n T e s = 0 := by unfold xKd; rw [if_neg h]
    rw [this, if_pos (show jz 0 = 0 from rfl)]
theorem l27_F (R : cF f pl hc) (x : Int32) : jlim (fPr_readInto_l27 d) (x, hc) = some (x, hc) := by
  rw [jlim_1]
  show lim1 _ (fPr_readInto_l27_b d x hc) = _
  unfold fPr_readInto_l27_b
  rw [goes_F R, if_pos rfl]
  split <;> rfl
theorem l124_F (R : mF n T f pl hm) : jlim fM_wedding_l124 hm = some hm := by
  rw [jlim_1]
  show lim1 _ (fM_wedding_l124_b hm) = _
  unfold fM_wedding_l124_b
  rw [if_neg (mF_5 R)]
  rfl
theorem told_loop (hd : d = 84 ∨ d = 98) : ∀ (M s : Nat), n - s < M → ∀ (e : Int) (c g np nh : Nat) (D : jD) (L : List Int) (hc hm : jH), 1 ≤ c → c ≤ 60 → cR n T e s hc → mR n T e s hm → xW d g np nh D L hc hm → hm.1 110 47 = jz c → ∃ x hc1 hc' hm', jlim (fPr_readInto_l27 d) (jz c, hc) = some (x, hc1) ∧ (if fRd_goesOn hc1 = 0 then hc1 else fRd_failHere 5 hc1) = hc' ∧ jlim fM_wedding_l124 hm = some hm' ∧ eFr (xFc d) hc hc' ∧ eFr xFl hm hm' ∧ ((∃ f pl, cF f pl hc' ∧ mF n T f pl hm' ∧ xWk d hc') ∨ ∃ e' c' g np nh D L, x = jz (c' : Nat) ∧ hm'.1 110 47 = jz (c' : Nat) ∧ cR n T e' n hc' ∧ mR n T e' n hm' ∧ xW d g np nh D L hc' hm') := by
  obtain ⟨hdd, h8a, h8b⟩ := xdd_8 hd
  intro M
  induction M with
  | zero => intro s h; omega
  | succ M ih =>
    intro s hM e c g np nh D L hc hm hc1 hc60 R R' X c47
    have me := mR_e R'
    obtain ⟨h1, q1, q2, q3⟩ := sM_look R'
    obtain ⟨go1, go2⟩ := goes_R R
    have X1 := xW_s hdd X (eFr_refl _ hc) (xm_2 q3)
    have c471 : h1.1 110 47 = jz c := by rw [q3.1 _ _ (by unfold xm2; omega)]; exact c47
    have lt60 : jz (c : Int) < 60 ↔ c < 60 := by rw [show (60 : Int32) = jz 60 from rfl, jz_lt (by omega) (by omega) (by omega) (by omega)]; omega
    by_cases c0 : s < n
    · have nm1 : ¬ jz (xCh n T s) = -1 := by
        have := (R'.1.2 s c0).1
        unfold xCh
        rw [if_pos c0, show (-1 : Int32) = jz (-1) from rfl, jz_eq (by omega) (by omega) (by omega) (by omega)]
        omega
      have mstep : fM_wedding_l124 hm = Option.bind (fM_statementTold h1) (fun z16 => some (.inl z16)) := by
        show fM_wedding_l124_b hm = _
        unfold fM_wedding_l124_b
        rw [mR_5 R', if_pos rfl, q1, Option.bind_some, if_neg nm1]
      by_cases c6 : c < 60
      · obtain ⟨rm, st, hc2, hm2, k1, k2, k3, k4, k5⟩ := told_stmt hd X1 R q2 c471 c6
        have cstep : fPr_readInto_l27 d (jz c, hc) = Option.bind (fRd_wantsSign 59 hc2) (fun z9 => some (.inl (jz ((c + 1 : Nat) : Int), z9))) := by
          show fPr_readInto_l27_b d (jz c) hc = _
          unfold fPr_readInto_l27_b
          rw [if_pos (lt60.mpr c6), go1 c0, if_neg (show ¬ (1 : Int32) = 0 by decide), k1, Option.bind_some, jk1]
        have ms2 : fM_wedding_l124 hm = Option.bind (fM_asksSign 59 hm2) (fun z18 => some (.inl (jhI z18 110 47 (z18.1 110 47 + 1)))) := by
          rw [mstep, st, k2, Option.bind_some]
          unfold fM_statementTold_j172
          cases fM_asksSign 59 hm2 <;> rfl
        have c472 : hm2.1 110 47 = jz c := by rw [k4.1 _ _ n47]; exact c471
        have f47 : ∀ {y : jH} {w : Int32}, eFr xFl hm y → eFr xFl hm (jhI y 110 47 w) := fun a => eFr_I (S := xFl) a (Or.inr ⟨rfl, rfl⟩) _
        have fm2 : eFr xFl hm hm2 := eFr_trans (xFl_m (xFm_m (xm_2 q3))) (xFl_m k4)
        -- on a fault all ends
        have stop : ∀ {f pl : Int} {c3 m3 : jH}, fRd_wantsSign 59 hc2 = some c3 → fM_asksSign 59 hm2 = some m3 → cF f pl c3 → mF n T f pl m3 → eFr x6 hc2 c3 → eFr xm hm2 m3 → xWk d hc2 → ∃ x hc1 hc' hm', jlim (fPr_readInto_l27 d) (jz c, hc) = some (x, hc1) ∧ (if fRd_goesOn hc1 = 0 then hc1 else fRd_failHere 5 hc1) = hc' ∧ jlim fM_wedding_l124 hm = some hm' ∧ eFr (xFc d) hc hc' ∧ eFr xFl hm hm' ∧ ((∃ f pl, cF f pl hc' ∧ mF n T f pl hm' ∧ xWk d hc') ∨ ∃ e' c' g np nh D L, x = jz (c' : Nat) ∧ hm'.1 110 47 = jz (c' : Nat) ∧ cR n T e' n hc' ∧ mR n T e' n hm' ∧ xW d g np nh D L hc' hm') := by
          intro f pl c3 m3 a1 a2 a3 a4 a5 a6 a7
          have m4 := mF_fr (h' := jhI m3 110 47 (m3.1 110 47 + 1)) a4 (fun o k hk => by rw [jhI_1, if_neg (by omega)])
          refine ⟨jz ((c + 1 : Nat) : Int), c3, c3, jhI m3 110 47 (m3.1 110 47 + 1), ?_, by rw [goes_F a3, if_pos rfl], ?_, eFr_trans k3 (xFc_6 a5), f47 (eFr_trans fm2 (xFl_m (xFm_m a6))), Or.inl ⟨f, pl, a3, m4, xWk_6 hdd a7 a5⟩⟩
          · rw [jlim_1, cstep, a1]
            exact l27_F a3 _
          · rw [jlim_1, ms2, a2]
            exact l124_F m4
        rcases k5 with ⟨f, pl, b1, b2, b3⟩ | ⟨e2, s2, g2, np2, nh2, D2, L2, b1, b2, b3, b4⟩
        · obtain ⟨c3, a1, a2, a3⟩ := sRd_wsignF b1 59
          exact stop a1 (sM_asignF b2 59) a2 b2 a3 (eFr_refl _ _) b3
        · have me2 := mR_e b2
          obtain ⟨ws1, ws2⟩ := sRd_wsign (c := 59) b1 (by omega) rfl rfl me2.2.1
          obtain ⟨as1, as2⟩ := sM_asign (c := 59) b2 (by omega)
          by_cases h59 : s2 < n ∧ T s2 = 59
          · obtain ⟨c3, a1, a2, a3⟩ := ws2 h59
            obtain ⟨m3, d1, d2, d3⟩ := as2 h59
            have X3 := xW_s hdd b3 a3 d3
            have sg := xSk_ge (n := n) (T := T) (s := s2 + 1)
            have c473 : m3.1 110 47 = jz c := by rw [d3.1 _ _ (by unfold xm; omega)]; exact c472
            have em : (jhI m3 110 47 (m3.1 110 47 + 1)) = jhI m3 110 47 (jz ((c + 1 : Nat) : Int)) := by rw [c473, jk1]
            obtain ⟨x, hc4, hc5, hm5, t1, t2, t3, t4, t5, t6⟩ := ih (xSk n T (s2 + 1)) (by omega) e2 (c + 1) g2 np2 nh2 D2 L2 c3 (jhI m3 110 47 (jz ((c + 1 : Nat) : Int))) (by omega) (by omega) a2 (mR_fr d2 (fun o k hk => by rw [jhI_1, if_neg (by omega)])) (xW_fr X3 (fun o k hk => rfl) (fun o k hk => by rw [jhI_1, if_neg (by omega)]) (fun k => rfl)) (by rw [jhI_1, if_pos ⟨rfl, rfl⟩])
            refine ⟨x, hc4, hc5, hm5, ?_, t2, ?_, eFr_trans k3 (eFr_trans (xFc_6 a3) t4), eFr_trans (f47 (eFr_trans fm2 (xFl_m (xFm_m d3)))) t5, t6⟩
            · rw [jlim_1, cstep, show fRd_wantsSign 59 hc2 = _ from a1]
              exact t1
            · rw [jlim_1, ms2, show fM_asksSign 59 hm2 = _ from d1, Option.bind_some, em]
              exact t3
          · obtain ⟨c3, a1, a2, a3⟩ := ws1 h59
            obtain ⟨m3, d1, d2, d3⟩ := as1 h59
            exact stop a1 d1 a2 d2 a3 d3 (xW_k b3)
      · -- too many
        have e60 : c = 60 := by omega
        subst e60
        have fl := sRd_hereR R (f := 5) (by omega)
        have gl := sM_failR (p2 := (s : Int)) q2 (f := 5) (by omega)
        refine ⟨jz ((60 : Nat) : Int), hc, fRd_failHere (jz 5) hc, fM_fail (jz 5) (jz s) h1, ?_, ?_, ?_, xFc_6 fl.2, xFl_m (xFm_m (eFr_trans (xm_2 q3) gl.2)), Or.inl ⟨5, s, fl.1, gl.1, xWk_6 hdd (xW_k X) fl.2⟩⟩
        · rw [jlim_1]
          show lim1 _ (fPr_readInto_l27_b d _ hc) = _
          unfold fPr_readInto_l27_b
          rw [if_neg (show ¬ jz ((60 : Nat) : Int) < 60 by decide)]
          rfl
        · rw [go1 c0, if_neg (show ¬ (1 : Int32) = 0 by decide)]
          rfl
        · have st : fM_statementTold h1 = some (fM_fail (jz 5) (jz s) h1) := by
            unfold fM_statementTold
            rw [c471, if_pos (show jz ((60 : Nat) : Int) = 60 from rfl), q2.2]
            rfl
          rw [jlim_1, mstep, st, Option.bind_some]
          exact l124_F gl.1
    · have hs : s = n := by omega
      subst hs
      refine ⟨jz (c : Int), hc, hc, h1, ?_, by rw [go2 c0, if_pos rfl], ?_, eFr_refl _ _, xFl_m (xFm_m (xm_2 q3)), Or.inr ⟨e, c, g, np, nh, D, L, rfl, c471, R, q2.1, X1⟩⟩
      · rw [jlim_1]
        show lim1 _ (fPr_readInto_l27_b d _ hc) = _
        unfold fPr_readInto_l27_b
        rw [go2 c0, if_pos rfl]
        split <;> rfl
      · rw [jlim_1]
        show lim1 _ (fM_wedding_l124_b hm) = _
        unfold fM_wedding_l124_b
        rw [mR_5 R', if_pos rfl, q1, Option.bind_some, if_pos (show jz (xCh s T s) = -1 from by unfold xCh; rw [if_neg c0]; rfl)]
        rfl
end XJ
