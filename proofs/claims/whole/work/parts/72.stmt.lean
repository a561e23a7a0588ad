/-! STATEMENTS, on both sides -/
section XF
variable {n : Nat} {T : Nat → Nat} {e : Int} {s s0 d g np nh : Nat} {D : jD} {L : List Int} {h hc hm h' : jH} {f pl : Int}
theorem nameF_any (hg : g ≤ 8) (c0 : hc.1 d 0 = jz g) (x : Int32) : ∃ r, fPn_guestNamed d x hc = some r := by
  have go : ∀ m k, k + m = g → ∃ u, jlim (fPn_guestNamed_l2 d x hc) (jz k) = some u := by
    intro m
    induction m with
    | zero =>
      intro k hk
      refine ⟨.inr (), ?_⟩
      rw [jlim_1]
      show lim1 _ (fPn_guestNamed_l2_b d x (jz k) hc) = _
      unfold fPn_guestNamed_l2_b
      rw [c0, if_neg (by rw [jz_lt (by omega) (by omega) (by omega) (by omega)]; omega)]
      rfl
    | succ m ih =>
      intro k hk
      obtain ⟨u, hu⟩ := ih (k + 1) (by omega)
      have ix : (jz (k : Int)).toNatClampNeg = k := by rw [jz_ix (by omega) (by omega), Int.toNat_natCast]
      rw [jlim_1]
      show ∃ u, lim1 _ (fPn_guestNamed_l2_b d x (jz k) hc) = _
      unfold fPn_guestNamed_l2_b
      rw [c0, if_pos (by rw [jz_lt (by omega) (by omega) (by omega) (by omega)]; omega), if_pos (by rw [show (8 : Int32) = jz 8 from rfl, jz_lt (by omega) (by omega) (by omega) (by omega)]; omega), if_pos (by rw [jin_z (by omega) (by omega)]; omega), ix, jk1]
      by_cases q : hc.1 (d + 1) k = x
      · rw [if_pos q]; exact ⟨_, rfl⟩
      · rw [if_neg q]; exact ⟨u, hu⟩
  obtain ⟨u, hu⟩ := go g 0 (by omega)
  have hu' : jlim (fPn_guestNamed_l2 d x hc) 0 = some u := hu
  unfold fPn_guestNamed
  rw [hu', Option.bind_some]
  cases u <;> exact ⟨_, rfl⟩
theorem told_guest (hd : d = 84 ∨ d = 98) (X : xW d g np nh D L hc hm) (R : cR n T e s hc) (y : xHas n T e s (xw 4) = true) (R' : mR n T (xRun n T xL s) (xSk n T (xRun n T xL s)) hm) : xRs n T d s hc hm (fPr_readGuest d hc) (fM_guestTold (jz s) hm) := by
  obtain ⟨hdd, h8a, h8b⟩ := xdd_8 hd
  have hdd' := hdd
  unfold xdd at hdd'
  have g8 := X.1.1.1
  have c0 := X.2.1.1.1
  have m0 := X.2.2.1.1.1
  have cl := xHas_L (xw_ok (i := 4) (by omega)).1 (xw_ok (i := 4) (by omega)).2.2.2 y
  have rg := xRunL_gt (xHas_iff.mp y).1.1 cl
  have sg := xSk_ge (n := n) (T := T) (s := xRun n T xL s)
  have fullE := sM_full (i := 0) (c := g) (c' := 8) (p2 := s) R' (by omega) m0 (by omega) (by omega)
  have n0 : ¬ jz (g : Int) < 0 := by rw [show (0 : Int32) = jz 0 from rfl, jz_lt (by omega) (by omega) (by omega) (by omega)]; omega
  by_cases cf : g = 8
  · have fl := sRd_hereR R (f := 5) (by omega)
    obtain ⟨h5, q1, q2, q3⟩ := fullE.1 (by omega)
    refine ⟨_, h5, ?_, ?_, xFc_6 fl.2, xFm_m q3, Or.inl ⟨5, s, fl.1, q2, xWk_6 hdd (xW_k X) fl.2⟩⟩
    · unfold fPr_readGuest fPr_readGuest_j16
      rw [c0, if_neg n0, if_neg (by rw [show (8 : Int32) = jz 8 from rfl, jz_lt (by omega) (by omega) (by omega) (by omega)]; omega)]
      rfl
    · unfold fM_guestTold
      rw [show fM_isFull 0 8 (jz s) hm = some (1, h5) from q1, Option.bind_some, if_neg (show ¬ (1 : Int32) = 0 by decide)]
  · have hg : g < 8 := by omega
    have q0 := fullE.2 (by omega)
    have jg : jin (jz (g : Int)) 8 := by rw [jin_z (by omega) (by omega)]; omega
    have ix : (jz (g : Int)).toNatClampNeg = g := by rw [jz_ix (by omega) (by omega), Int.toNat_natCast]
    obtain ⟨hc1, a1, a2, a3⟩ := (sRd_tword (i := 4) R (by omega)).2 y
    have X1 := xW_s hdd X a3 (eFr_refl _ hm)
    generalize hu : xSk n T (xRun n T xL s) = u at *
    have clc : ∀ (z6 : Int32) (hc2 : jH), fRd_wantsName hc1 = some (z6, hc2) → fPr_readGuest d hc = Option.bind (fPn_guestNamed d z6 (jhI hc2 (d + 1) g z6)) (fun z9 => if z9 = (-1) then fPr_readGuest_j85 d (jz g) (jhI hc2 (d + 1) g z6) else fPr_readGuest_j85 d (jz g) (fRd_fail 3 (fRd_here hc1) (jhI hc2 (d + 1) g z6))) := by
      intro z6 hc2 hk
      unfold fPr_readGuest
      rw [c0, if_neg n0, if_pos (by rw [show (8 : Int32) = jz 8 from rfl, jz_lt (by omega) (by omega) (by omega) (by omega)]; omega), show fRd_takesWord 1004 hc = _ from a1, Option.bind_some]
      dsimp only
      rw [hk, Option.bind_some, if_pos jg, if_pos jg]
      simp only [ix, jhI_1, and_self, if_true]
    have rfm : ∀ (z3 : Int64) (hm2 : jH), fM_name hm = some (z3, hm2) → fM_guestTold (jz s) hm = (if (hm2.1 110 5) = 0 then (Option.bind (fM_nameOf z3 hm2) (fun z5 => if z5 = (-1) then fM_guestTold_j42 z3 hm2 else fM_guestTold_j42 z3 (fM_fail 3 (hm2.1 110 35) hm2))) else fM_guestTold_j42 z3 hm2) := by
      intro z3 hm2 hk
      unfold fM_guestTold
      rw [show fM_isFull 0 8 (jz s) hm = some (0, hm) from q0, Option.bind_some, if_pos rfl]
      dsimp only
      rw [hk, Option.bind_some]
    obtain ⟨r1, r2, r3, r4⟩ := sRd_name a2
    obtain ⟨t1, t2, t3, t4⟩ := sM_name R'
    -- what comes behind the name
    have fin : ∀ (yc ym : jH) (z6 : Int32) (z3 : Int64), eFr (xFc d) hc yc → eFr xFm hm ym → xW d g np nh D L yc ym → yc.1 (d + 1) g = z6 → xBo n T s yc ym → (¬ xbad yc → jNm z6 z3) → fPr_readGuest d hc = fPr_readGuest_j85 d (jz g) yc → fM_guestTold (jz s) hm = fM_guestTold_j42 z3 ym → xRs n T d s hc hm (fPr_readGuest d hc) (fM_guestTold (jz s) hm) := by
      intro yc ym z6 z3 f1 f2 XX cn B hn e1 e2
      obtain ⟨hc', hm', k1, k2, k3, k4, k5⟩ := told_85 hd XX hg cn B hn
      exact ⟨hc', hm', by rw [e1]; exact k1, by rw [e2]; exact k2, eFr_trans f1 k3, eFr_trans f2 k4, k5⟩
    have bad : ∀ {f pl : Int} {c1 m1 : jH}, fRd_wantsName hc1 = some (0, c1) → fM_name hm = some (0, m1) → cF f pl c1 → mF n T f pl m1 → eFr x6 hc1 c1 → eFr xm hm m1 → xRs n T d s hc hm (fPr_readGuest d hc) (fM_guestTold (jz s) hm) := by
      intro f pl c1 m1 b1 b2 b3 b4 b5 b6
      have X2 := xW_s hdd X1 b5 b6
      have c3 : cF f pl (jhI c1 (d + 1) g 0) := cF_fr b3 (fun k => by rw [jhI_1, if_neg (by omega)])
      have X3 : xW d g np nh D L (jhI c1 (d + 1) g 0) m1 := ⟨X2.1, xDc_fr X2.2.1 (fun o k hk => by rw [jhI_1, if_neg (by omega)]), X2.2.2.1, fun k hk => by rw [jhI_1, if_neg (by omega)]; exact X2.2.2.2 k hk⟩
      obtain ⟨r, hr⟩ := nameF_any g8 X3.2.1.1.1 (0 : Int32)
      have F3 := sRd_failF c3 3 (fRd_here hc1)
      have ffc : eFr (xFc d) hc (jhI c1 (d + 1) g 0) := xFc_I (xFc_6 (eFr_trans a3 b5)) (by omega) _
      have em : fM_guestTold (jz s) hm = fM_guestTold_j42 0 m1 := by rw [rfm _ _ b2, if_neg (mF_5 b4)]
      by_cases q : r = -1
      · refine fin (jhI c1 (d + 1) g 0) m1 0 0 ffc (xFm_m b6) X3 (by rw [jhI_1, if_pos ⟨rfl, rfl⟩]) (Or.inl ⟨f, pl, c3, b4⟩) (fun t => absurd ⟨f, pl, c3⟩ t) ?_ em
        rw [clc _ _ b1, hr, Option.bind_some, if_pos q]
      · have X4 := xW_s hdd X3 F3.2 (eFr_refl _ m1)
        refine fin _ m1 0 0 (eFr_trans ffc (xFc_6 F3.2)) (xFm_m b6) X4 (by rw [F3.2.1 _ _ (by unfold x6; omega), jhI_1, if_pos ⟨rfl, rfl⟩]) (Or.inl ⟨f, pl, F3.1, b4⟩) (fun t => absurd ⟨f, pl, F3.1⟩ t) ?_ em
        rw [clc _ _ b1, hr, Option.bind_some, if_neg q]
    by_cases k1 : xWord n T (xRun n T xL s) u
    · by_cases k2 : xOwn n T (xRun n T xL s) u = true
      · obtain ⟨m1, b1, b2, b3⟩ := t2 k1 k2
        by_cases k3 : 6 < xRun n T xL u - u
        · exfalso
          unfold xOwn at k2
          obtain ⟨i, i1, i2⟩ := List.any_eq_true.mp k2
          have := (xw_ok (show i < 31 by have := List.mem_range.mp i1; omega)).2.1
          have := (xHas_iff.mp i2).1.2.2
          omega
        · obtain ⟨c1, d1, d2, d3⟩ := r3 k1 k3 k2
          exact bad d1 b1 d2 b2 d3 b3
      · by_cases k3 : 6 < xRun n T xL u - u
        · obtain ⟨c1, d1, d2, d3⟩ := r2 k1 k3
          obtain ⟨m1, b1, b2, b3⟩ := t3 k1 k2 k3
          exact bad d1 b1 d2 b2 d3 b3
        · obtain ⟨c1, d1, d2, d3⟩ := r4 k1 k3 k2
          obtain ⟨m1, b1, b2, b3, b35⟩ := t4 k1 k2 k3
          have X2 := xW_s hdd X1 d3 b3
          have nm := xNm_jNm k1.1 k1.2.1 k3
          have rg2 := xRunL_gt k1.1 k1.2.1
          have sg2 := xSk_ge (n := n) (T := T) (s := xRun n T xL u)
          generalize hz6 : jz (xWv n T u : Int) = z6 at *
          generalize hz3 : jw (xNl T u (xRun n T xL u - u) : Int) = z3 at *
          have X3 : xW d g np nh D L (jhI c1 (d + 1) g z6) m1 := ⟨X2.1, xDc_fr X2.2.1 (fun o k hk => by rw [jhI_1, if_neg (by omega)]), X2.2.2.1, fun k hk => by rw [jhI_1, if_neg (by omega)]; exact X2.2.2.2 k hk⟩
          obtain ⟨r, v1, v2, v3, v4, v5⟩ := named_eq (x := z6) (y := z3) g8 X3.2.1.1.1 X3.2.2.1.1.1 (fun k hk => jNm_eq (X3.2.2.2 k hk) nm)
          have ffc : eFr (xFc d) hc (jhI c1 (d + 1) g z6) := xFc_I (xFc_6 (eFr_trans a3 d3)) (by omega) _
          have R3 := cR_fr (h' := jhI c1 (d + 1) g z6) d2 (fun o k hk => by rw [jhI_1, if_neg (by omega)])
          by_cases hr : r = -1
          · subst hr
            refine fin (jhI c1 (d + 1) g z6) m1 z6 z3 ffc (xFm_m b3) X3 (by rw [jhI_1, if_pos ⟨rfl, rfl⟩]) (Or.inr ⟨_, _, by omega, R3, b2⟩) (fun _ => nm) ?_ ?_
            · rw [clc _ _ d1, v3, Option.bind_some, if_pos (show jz (-1) = -1 from rfl)]
            · rw [rfm _ _ b1, mR_5 b2, if_pos rfl, v4, Option.bind_some, if_pos (show jz (-1) = -1 from rfl)]
          · have nr : ¬ jz r = -1 := by rw [show (-1 : Int32) = jz (-1) from rfl, jz_eq (by omega) (by omega) (by omega) (by omega)]; exact hr
            have F3 := sRd_failR (pl := (u : Int)) R3 (f := 3) (by omega)
            have G3 := sM_failM (p2 := (u : Int)) b2 (f := 3) (by omega)
            have X4 := xW_s hdd X3 F3.2 G3.2
            refine fin _ _ z6 z3 (eFr_trans ffc (xFc_6 F3.2)) (xFm_m (eFr_trans b3 G3.2)) X4 (by rw [F3.2.1 _ _ (by unfold x6; omega), jhI_1, if_pos ⟨rfl, rfl⟩]) (Or.inl ⟨3, u, F3.1, G3.1⟩) (fun _ => nm) ?_ ?_
            · rw [clc _ _ d1, v3, Option.bind_some, if_neg nr]
              unfold fRd_here
              rw [a2.2.2.2.1]
              rfl
            · rw [rfm _ _ b1, mR_5 b2, if_pos rfl, v4, Option.bind_some, if_neg nr, b35]
              rfl
    · obtain ⟨c1, d1, d2, d3⟩ := r1 k1
      obtain ⟨m1, b1, b2, b3⟩ := t1 k1
      exact bad d1 b1 d2 b2 d3 b3
/-- the codes go behind those told before -/
theorem late_copy {C : List Int} : ∀ (m i : Nat), i + m = C.length → C.length ≤ 1600 → ∀ h, h.1 110 80 = jz C.length → (∀ j, j < C.length → h.1 173 j = jz (C.getD j 0)) → h.1 110 46 = jz i → (∀ j, j < i → h.1 147 j = jz (C.getD j 0)) → ∃ h', jlim fM_lateTold_l80 (jz i, h) = some h' ∧ h'.1 110 46 = jz C.length ∧ (∀ j, j < C.length → h'.1 147 j = jz (C.getD j 0)) ∧ eFr (fun o k => (o = 147 ∧ k < 1600) ∨ (o = 110 ∧ k = 46)) h h' := by
  intro m
  induction m with
  | zero =>
    intro i hi hC h h80 h173 h46 h147
    refine ⟨h, ?_, by rw [h46, show i = C.length by omega], fun j hj => h147 j (by omega), eFr_refl _ _⟩
    rw [jlim_1]
    show lim1 _ (fM_lateTold_l80_b (jz i) h) = _
    unfold fM_lateTold_l80_b
    rw [h80, if_neg (by rw [jz_lt (by omega) (by omega) (by omega) (by omega)]; omega)]
    rfl
  | succ m ih =>
    intro i hi hC h h80 h173 h46 h147
    have ix : (jz (i : Int)).toNatClampNeg = i := by rw [jz_ix (by omega) (by omega), Int.toNat_natCast]
    have f0 : eFr (fun o k => (o = 147 ∧ k < 1600) ∨ (o = 110 ∧ k = 46)) h (jhI (jhI h 147 i (jz (C.getD i 0))) 110 46 (jz ((i + 1 : Nat) : Int))) := eFr_I (S := fun o k => (o = 147 ∧ k < 1600) ∨ (o = 110 ∧ k = 46)) (eFr_I (S := fun o k => (o = 147 ∧ k < 1600) ∨ (o = 110 ∧ k = 46)) (eFr_refl _ _) (by omega) _) (by omega) _
    obtain ⟨h', q1, q2, q3, q4⟩ := ih (i + 1) (by omega) hC (jhI (jhI h 147 i (jz (C.getD i 0))) 110 46 (jz ((i + 1 : Nat) : Int))) (by rw [f0.1 _ _ (by omega)]; exact h80) (fun j hj => by rw [f0.1 _ _ (by omega)]; exact h173 j hj) (by rw [jhI_1, if_pos ⟨rfl, rfl⟩]) (fun j hj => by
      rw [jhI_1, if_neg (by omega), jhI_1]
      by_cases q : j = i
      · rw [if_pos ⟨rfl, q⟩, q]
      · rw [if_neg (fun t => q t.2)]; exact h147 j (by omega))
    refine ⟨h', ?_, q2, q3, eFr_trans f0 q4⟩
    rw [jlim_1]
    show lim1 _ (fM_lateTold_l80_b (jz i) h) = _
    unfold fM_lateTold_l80_b
    rw [h80, if_pos (by rw [jz_lt (by omega) (by omega) (by omega) (by omega)]; omega), if_pos (by rw [jin_z (by omega) (by omega)]; omega), h46, if_pos (by rw [jin_z (by omega) (by omega)]; omega), ix, h173 i (by omega), jhI_1, if_neg (by omega), h46, jk1]
    exact q1
theorem xFm_145 : xFm 145 0 := Or.inr (Or.inr (Or.inr (Or.inr (Or.inr (Or.inr (Or.inr (Or.inr (Or.inl ⟨rfl, rfl⟩))))))))
theorem xFm_146 : xFm 146 0 := Or.inr (Or.inr (Or.inr (Or.inr (Or.inr (Or.inr (Or.inr (Or.inr (Or.inr (Or.inl ⟨rfl, rfl⟩)))))))))
theorem xFm_147 {k : Nat} (h : k < 1600) : xFm 147 k := Or.inr (Or.inr (Or.inr (Or.inr (Or.inr (Or.inr (Or.inr (Or.inr (Or.inr (Or.inr (Or.inl ⟨rfl, h⟩))))))))))
theorem xFm_110 {k : Nat} (h : k = 46 ∨ k = 49) : xFm 110 k := Or.inr (Or.inr (Or.inr (Or.inr (Or.inr (Or.inr (Or.inr (Or.inr (Or.inr (Or.inr (Or.inr ⟨rfl, h⟩))))))))))
theorem xFm_copy {o k : Nat} (h : (o = 147 ∧ k < 1600) ∨ (o = 110 ∧ k = 46)) : xFm o k := by
  rcases h with ⟨rfl, h⟩ | ⟨rfl, rfl⟩
  · exact xFm_147 h
  · exact xFm_110 (Or.inl rfl)
theorem xFm_q {k : Nat} (h : k = 80 ∨ k = 82 ∨ k = 83 ∨ k = 84) : xFm 110 k := Or.inl (Or.inr (Or.inr ⟨rfl, by omega⟩))
theorem told_late (hd : d = 84 ∨ d = 98) (X : xW d g np nh D L hc hm) (R : cR n T e s hc) (y : xHas n T e s (xw 11) = true) (R' : mR n T (xRun n T xL s) (xSk n T (xRun n T xL s)) hm) : xRs n T d s hc hm (fFo_readLate (d + 9) hc) (fM_lateTold (jz s) hm) := by
  obtain ⟨hdd, h8a, h8b⟩ := xdd_8 hd
  have hdd' := hdd
  unfold xdd at hdd'
  have me := mR_e R'
  have cl := xHas_L (xw_ok (i := 11) (by omega)).1 (xw_ok (i := 11) (by omega)).2.2.2 y
  have rg := xRunL_gt (xHas_iff.mp y).1.1 cl
  have sg := xSk_ge (n := n) (T := T) (s := xRun n T xL s)
  have lc := X.2.1.2.2.2.2.2.1
  have l1600 := X.1.2.2.2.2.1
  have z0 : (0 : Int32).toNatClampNeg = 0 := rfl
  by_cases hL : L = []
  · -- the first one
    have em : fFo_isEmpty (d + 9) hc = 1 := by
      unfold fFo_isEmpty
      rw [lc, hL]
      rfl
    obtain ⟨c0, hc0⟩ : ∃ c0, c0 = jhI hc (d + 9) 3 (jz 0) := ⟨_, rfl⟩
    have R0 : cR n T e s c0 := cR_fr R (fun o k hk => by rw [hc0, jhI_1, if_neg (by omega)])
    obtain ⟨c2, a1, a2, a3⟩ := (sRd_tword (i := 11) R0 (by omega)).2 y
    have m46 : hm.1 110 46 = jz 0 := by have := X.2.2.1.2.2.2.2.2.1; rw [hL] at this; exact this
    have m145 := X.2.2.1.2.2.2.2.2.2.1 hL
    obtain ⟨m2, hm2⟩ : ∃ m2, m2 = jhI (jhI (jhI (jhI (jhI hm 110 49 (jz 1)) 110 80 (jz 0)) 110 82 (jz 0)) 110 83 (jz 0)) 110 84 (jz 0) := ⟨_, rfl⟩
    have R2 := a2
    have O2 : cO (d + 9) [] 0 c2 := ⟨by rw [a3.1 _ _ (by unfold x6; omega), hc0, jhI_1, if_neg (by omega), lc, hL], fun j hj => by simp at hj, by rw [a3.1 _ _ (by unfold x6; omega), hc0, jhI_1, if_pos ⟨rfl, rfl⟩], by simp, by omega⟩
    have R2' : mR n T (xRun n T xL s) (xSk n T (xRun n T xL s)) m2 := mR_fr R' (fun o k hk => by rw [hm2]; simp (disch := omega) only [jhI_1, if_neg])
    have O2' : mO [] 0 0 [] 0 m2 := by
      rw [hm2]
      refine ⟨?_, fun i hi => by simp at hi, ?_, by simp, ?_, ?_, fun j hj => by simp at hj, ?_, by simp, by simp, fun x hx => (by cases hx), Or.inl rfl, by omega, by omega⟩ <;> simp (disch := omega) only [jhI_1, if_neg, if_pos, and_self, List.length_nil] <;> rfl
    obtain ⟨hc3, g1, g2, g3⟩ := sums_ok (dd := 0) (K := 400) (by omega) (by omega) R2 O2 R2' O2' ⟨rfl, fun j hj => by simp at hj⟩ (by simp) (fun x r h => by cases h)
    have fc2 : eFr (xFc d) hc c2 := by rw [hc0] at a3; exact eFr_trans (xFc_I (eFr_refl _ _) (by omega) _) (xFc_6 a3)
    have fc3 : eFr (xFc d) hc hc3 := eFr_trans fc2 (eFr_mono g2 (fun o k hk => by unfold xc at hk; unfold xFc; omega))
    have fm2 : eFr xFm hm m2 := by
      rw [hm2]
      exact eFr_I (S := xFm) (eFr_I (S := xFm) (eFr_I (S := xFm) (eFr_I (S := xFm) (eFr_I (S := xFm) (eFr_refl _ _) (xFm_110 (by omega)) _) (xFm_q (by omega)) _) (xFm_q (by omega)) _) (xFm_q (by omega)) _) (xFm_q (by omega)) _
    have cs : fFo_readLate (d + 9) hc = some hc3 := by
      unfold fFo_readLate
      rw [em, if_neg (show ¬ (1 : Int32) = 0 by decide), show jhI hc (d + 9) 3 0 = c0 from hc0.symm, show fRd_takesWord 1011 c0 = _ from a1, Option.bind_some]
      dsimp only
      rw [show fFo_grp 400 3 (d + 9) 0 0 c2 = _ from g1, Option.bind_some]
    have ms0 : fM_lateTold (jz s) hm = Option.bind (fM_qSums m2) (fun z5 => if (z5.1 110 5) = 0 then Option.bind (jlim fM_lateTold_l80 (0, jhI z5 145 0 (z5.1 110 46))) (fun x11 => some (jhI x11 146 0 (x11.1 110 46))) else some z5) := by
      unfold fM_lateTold fM_lateTold_j23
      simp only [z0, if_pos (show jin 0 2 by decide)]
      rw [mR_5 R', if_pos rfl, m145, if_pos rfl, if_pos rfl]
      rw [show jhI (jhI (jhI (jhI (jhI hm 110 49 1) 110 80 0) 110 82 0) 110 83 0) 110 84 0 = m2 from hm2.symm]
    have wk3 : xWk d hc3 := xWk_fr (xW_k X) (fun o k hk => by
      rw [g2.1 _ _ (by unfold xc; omega), a3.1 _ _ (by unfold x6; omega), hc0, jhI_1, if_neg (by omega)])
    rcases g3 with ⟨f', pl', h5, b1, b2, b3, b4, b5⟩ | ⟨e5, s5, l5, C5, h5, d1, d2, d3, d4, d5, d6, d7, d8, d9, d10, d11, d12⟩
    · refine ⟨hc3, h5, cs, ?_, fc3, eFr_trans fm2 (xFm_g b5.1), Or.inl ⟨f', pl', b1, b4, wk3⟩⟩
      rw [ms0, b3, Option.bind_some, if_neg (mF_5 b4)]
    · rw [List.nil_append] at d3 d6
      have o80 := d5.2.2.2.2.2.1
      have o173 := d5.2.2.2.2.2.2.1
      have h46 : h5.1 110 46 = jz 0 := by
        rw [d12.1 _ _ (by unfold xg; omega), hm2]
        simp (disch := omega) only [jhI_1, if_neg]
        exact m46
      obtain ⟨h6, k1, k2, k3, k4⟩ := late_copy (C := C5) C5.length 0 (by omega) (by have := mR_e d4.1; omega) (jhI h5 145 0 (jz 0)) (by rw [jhI_1, if_neg (by omega)]; exact o80) (fun j hj => by rw [jhI_1, if_neg (by omega)]; exact o173 j hj) (by rw [jhI_1, if_neg (by omega)]; exact h46) (fun j hj => by omega)
      have k1' : jlim fM_lateTold_l80 (0, jhI h5 145 0 (jz 0)) = some h6 := k1
      have rel := d6.2
      have ln := d6.1
      have me5 := mR_e d4.1
      have lne : l5 ≠ [] := by
        intro h
        obtain ⟨v, -, -, hv⟩ := d9 (fun _ => 0) (fun _ => 0) ⟨fun _ => by show (0 : Int) ≤ 0 ∧ (0 : Int) ≤ 1000; omega, fun _ => Or.inl rfl⟩ [] (by unfold pm; simp)
        rw [h] at hv
        unfold jrun at hv
        cases hv
      have wf : jwf l5 := fun E F w => by
        obtain ⟨v, v1, v2, v3⟩ := d9 E F w [] (by unfold pm; simp)
        exact ⟨v, v1, v2, v3⟩
      refine ⟨hc3, jhI h6 146 0 (jz C5.length), cs, ?_, fc3, ?_, Or.inr ⟨e5, s5, g, np, nh, D, l5, d2, ?_, ⟨?_, ?_, ?_, ?_⟩, by omega⟩⟩
      · rw [ms0, d1, Option.bind_some, mR_5 d4.1, if_pos rfl, h46, k1', Option.bind_some, k2]
      · exact eFr_I (S := xFm) (eFr_trans (eFr_trans fm2 (xFm_g d12)) (eFr_trans (eFr_I (S := xFm) (eFr_refl _ _) xFm_145 _) (eFr_mono k4 (fun o k hk => xFm_copy hk)))) xFm_146 _
      · exact mR_fr d4.1 (fun o k hk => by rw [jhI_1, if_neg (by omega), k4.1 _ _ (by omega), jhI_1, if_neg (by omega)])
      · exact ⟨X.1.1, X.1.2.1, X.1.2.2.1, X.1.2.2.2.1, by omega, fun _ => ⟨wf, d10⟩⟩
      · have x := X.2.1
        have ck : ∀ o k, d ≤ o → o ≤ d + 8 → hc3.1 o k = hc.1 o k := fun o k h1 h2 => by
          rw [g2.1 _ _ (by unfold xc; omega), a3.1 _ _ (by unfold x6; omega), hc0, jhI_1, if_neg (by omega)]
        obtain ⟨x1, x2, x3, x4, x5, -⟩ := x
        refine ⟨?_, ?_, ?_, fun k hk => ?_, fun k hk => ?_, d3.1, d3.2.1⟩
        · rw [ck _ _ (by omega) (by omega), ck _ _ (by omega) (by omega), ck _ _ (by omega) (by omega)]; exact x1
        · rw [ck _ _ (by omega) (by omega), ck _ _ (by omega) (by omega), ck _ _ (by omega) (by omega), ck _ _ (by omega) (by omega)]; exact x2
        · rw [ck _ _ (by omega) (by omega), ck _ _ (by omega) (by omega), ck _ _ (by omega) (by omega)]; exact x3
        · rw [ck _ _ (by omega) (by omega), ck _ _ (by omega) (by omega), ck _ _ (by omega) (by omega), ck _ _ (by omega) (by omega)]; exact x4 k hk
        · rw [ck _ _ (by omega) (by omega), ck _ _ (by omega) (by omega)]; exact x5 k hk
      · have mk : ∀ o k, (o = 138 ∨ o = 140 ∨ o = 141 ∨ o = 142 ∨ o = 143 ∨ o = 144) → (jhI h6 146 0 (jz C5.length)).1 o k = hm.1 o k := fun o k hk => by
          rw [jhI_1, if_neg (by omega), k4.1 _ _ (by omega), jhI_1, if_neg (by omega), d12.1 _ _ (by unfold xg; omega), hm2]
          simp (disch := omega) only [jhI_1, if_neg]
        obtain ⟨x1, x2, x3, x4, x5, -⟩ := X.2.2.1
        refine ⟨?_, ?_, ?_, fun k hk => ?_, fun k hk => ?_, ?_, fun t => absurd t lne, fun _ => ⟨?_, ?_, fun j hj => ?_⟩⟩
        · rw [mk _ _ (by omega), mk _ _ (by omega), mk _ _ (by omega)]; exact x1
        · rw [mk _ _ (by omega), mk _ _ (by omega), mk _ _ (by omega), mk _ _ (by omega)]; exact x2
        · rw [mk _ _ (by omega), mk _ _ (by omega), mk _ _ (by omega)]; exact x3
        · rw [mk _ _ (by omega), mk _ _ (by omega), mk _ _ (by omega), mk _ _ (by omega)]; exact x4 k hk
        · rw [mk _ _ (by omega), mk _ _ (by omega)]; exact x5 k hk
        · rw [jhI_1, if_neg (by omega), k2, ln]
        · rw [jhI_1, if_neg (by omega), k4.1 _ _ (by omega), jhI_1, if_pos ⟨rfl, rfl⟩]
        · rw [jhI_1, if_pos ⟨rfl, rfl⟩, ln]
        · rw [jhI_1, if_neg (by omega), k3 j (by omega)]
          have := rel j hj
          unfold xcode at this
          rw [this.resolve_right (by omega)]
      · intro k hk
        have e1 : hc3.1 (d + 1) k = hc.1 (d + 1) k := by
          rw [g2.1 _ _ (by unfold xc; omega), a3.1 _ _ (by unfold x6; omega), hc0, jhI_1, if_neg (by omega)]
        have e2 : (jhI h6 146 0 (jz C5.length)).2 139 k = hm.2 139 k := by
          rw [jhI_2, k4.2 _ _ (by omega), jhI_2, d12.2 _ _ (by unfold xg; omega), hm2]
          simp only [jhI_2]
        rw [e1, e2]
        exact X.2.2.2 k hk
  · -- a second one
    have em : fFo_isEmpty (d + 9) hc = 0 := by
      have : 0 < L.length := List.length_pos_iff.mpr hL
      unfold fFo_isEmpty
      rw [lc, if_neg (by rw [show (0 : Int32) = jz 0 from rfl, jz_eq (by omega) (by omega) (by omega) (by omega)]; omega)]
    have m145 := (X.2.2.1.2.2.2.2.2.2.2 hL).1
    have fl := sRd_hereR R (f := 5) (by omega)
    have gl := sM_failM (p2 := (s : Int)) R' (f := 5) (by omega)
    refine ⟨_, _, ?_, ?_, xFc_6 fl.2, xFm_m gl.2, Or.inl ⟨5, s, fl.1, gl.1, xWk_6 hdd (xW_k X) fl.2⟩⟩
    · unfold fFo_readLate
      rw [em, if_pos rfl]
      rfl
    · unfold fM_lateTold
      simp only [z0, if_pos (show jin 0 2 by decide)]
      rw [mR_5 R', if_pos rfl, m145, if_neg (show ¬ jz 0 = -1 by decide)]
      unfold fM_lateTold_j23
      rw [show (5 : Int32) = jz 5 from rfl, if_neg (mF_5 gl.1)]
end XF
