/-! a STATEMENT, on both sides -/
section XI
variable {n : Nat} {T : Nat → Nat} {e : Int} {s s0 d g np nh : Nat} {D : jD} {L : List Int} {h hc hm h' : jH} {f pl : Int}
theorem num1 {m : Nat} (hm9 : m ≤ 9999) (R : cR n T e s hc) (R' : mR n T e s hm) : ∃ c2 m2 zc zm, fRd_wantsNumber (jz m) hc = some (zc, c2) ∧ fM_number 0 (jz m) hm = some (zm, m2) ∧ eFr x6 hc c2 ∧ eFr xm hm m2 ∧ ((∃ f pl, cF f pl c2 ∧ mF n T f pl m2) ∨ (∃ e' s' x, 0 ≤ x ∧ x ≤ (m : Int) ∧ zc = jz x ∧ zm = jz x ∧ cR n T e' s' c2 ∧ mR n T e' s' m2 ∧ s < s')) := by
  obtain ⟨r1, r2, r3, r4⟩ := sRd_number (m := m) R hm9
  obtain ⟨q1, q2, q3, q4⟩ := sM_number (m := m) R' hm9
  by_cases k1 : xNum n T e s
  · by_cases k2 : 4 < xRun n T xD s - s
    · obtain ⟨c2, d1, d2, d3⟩ := r2 k1 k2
      obtain ⟨m2, e1, e2, e3⟩ := q2 k1 k2
      exact ⟨c2, m2, _, _, d1, e1, d3, e3, Or.inl ⟨_, _, d2, e2⟩⟩
    · by_cases k3 : m < xNv n T s
      · obtain ⟨c2, d1, d2, d3⟩ := r3 k1 k2 k3
        obtain ⟨v, m2, e1, e2, e3⟩ := q3 k1 k2 k3
        exact ⟨c2, m2, _, _, d1, e1, d3, e3, Or.inl ⟨_, _, d2, e2⟩⟩
      · obtain ⟨c2, d1, d2, d3⟩ := r4 k1 k2 k3
        obtain ⟨m2, e1, e2, e3⟩ := q4 k1 k2 k3
        have rg2 : s < xRun n T xD s := by
          rw [xRun_go k1.1 k1.2.1]
          have := xRun_ge (n := n) (T := T) (P := xD) (s := s + 1)
          omega
        have sg2 := xSk_ge (n := n) (T := T) (s := xRun n T xD s)
        exact ⟨c2, m2, _, _, d1, e1, d3, e3, Or.inr ⟨_, _, (xNv n T s : Int), by omega, by omega, rfl, rfl, d2, e2, by omega⟩⟩
  · obtain ⟨c2, d1, d2, d3⟩ := r1 k1
    obtain ⟨m2, e1, e2, e3⟩ := q1 k1
    exact ⟨c2, m2, _, _, d1, e1, d3, e3, Or.inl ⟨_, _, d2, e2⟩⟩
theorem xRs_pre {rc rm : Option jH} {hc0 hm0 : jH} (a : eFr x6 hc0 hc) (b : eFr xm hm0 hm) (X : xRs n T d s hc hm rc rm) (h : s0 ≤ s) : xRs n T d s0 hc0 hm0 rc rm := by
  obtain ⟨hc', hm', k1, k2, k3, k4, k5⟩ := X
  refine ⟨hc', hm', k1, k2, eFr_trans (xFc_6 a) k3, eFr_trans (xFm_m b) k4, ?_⟩
  rcases k5 with k5 | ⟨e', s', g, np, nh, D, L, q1, q2, q3, q4⟩
  · exact Or.inl k5
  · exact Or.inr ⟨e', s', g, np, nh, D, L, q1, q2, q3, by omega⟩
theorem xFm_144 {k : Nat} (h : k < 3) : xFm 144 k := Or.inr (Or.inr (Or.inr (Or.inr (Or.inr (Or.inr (Or.inr (Or.inl ⟨rfl, h⟩)))))))
theorem told_maybe (hd : d = 84 ∨ d = 98) (X : xW d g np nh D L hc hm) (R : cR n T e s hc) (R' : mR n T e s hm) : xRs n T d s hc hm (Option.bind (fRd_wantsNumber 10 hc) (fun z => some (jhI z.2 d 7 z.1))) (Option.bind (fM_number 0 10 hm) (fun z => some (jhI z.2 144 0 z.1))) := by
  obtain ⟨hdd, h8a, h8b⟩ := xdd_8 hd
  have hdd' := hdd
  unfold xdd at hdd'
  obtain ⟨c2, m2, zc, zm, a1, a2, a3, a4, a5⟩ := num1 (m := 10) (by omega) R R'
  have X2 := xW_s hdd X a3 a4
  refine ⟨jhI c2 d 7 zc, jhI m2 144 0 zm, ?_, ?_, xFc_I (xFc_6 a3) (by omega) _, eFr_I (S := xFm) (xFm_m a4) (xFm_144 (by omega)) _, ?_⟩
  · rw [show fRd_wantsNumber 10 hc = _ from a1, Option.bind_some]
  · rw [show fM_number 0 10 hm = _ from a2, Option.bind_some]
  rcases a5 with ⟨f, pl, b1, b2⟩ | ⟨e', s', x, b1, b2, rfl, rfl, b3, b4, b5⟩
  · exact Or.inl ⟨f, pl, cF_fr b1 (fun k => by rw [jhI_1, if_neg (by omega)]), mF_fr b2 (fun o k hk => by rw [jhI_1, if_neg (by omega)]), xWk_fr (xWk_6 hdd (xW_k X) a3) (fun o k hk => by rw [jhI_1, if_neg (by omega)])⟩
  · refine Or.inr ⟨e', s', g, np, nh, eUp D 0 7 x, L, cR_fr b3 (fun o k hk => by rw [jhI_1, if_neg (by omega)]), mR_fr b4 (fun o k hk => by rw [jhI_1, if_neg (by omega)]), ⟨?_, ?_, ?_, ?_⟩, b5⟩
    · obtain ⟨⟨w1, w2, w3, w4, w5⟩, w6, w7⟩ := X.1
      have u : ∀ a k, ¬ (a = 0 ∧ k = 7) → eUp D 0 7 x a k = D a k := fun a k h => by unfold eUp; rw [if_neg h]
      have u' : eUp D 0 7 x 0 7 = x := by unfold eUp; rw [if_pos ⟨rfl, rfl⟩]
      refine ⟨⟨w1, ?_, ?_, fun k hk => ?_, fun k hk => ?_⟩, ?_, w7⟩
      · simp (disch := omega) only [u, u']
        omega
      · rw [u 0 10 (by omega)]; exact w3
      · rw [u _ _ (by omega), u _ _ (by omega), u _ _ (by omega), u _ _ (by omega)]; exact w4 k hk
      · rw [u _ _ (by omega), u _ _ (by omega)]; exact w5 k hk
      · rw [u 0 10 (by omega)]; exact w6
    · have u : ∀ a k, ¬ (a = 0 ∧ k = 7) → eUp D 0 7 x a k = D a k := fun a k h => by unfold eUp; rw [if_neg h]
      have u' : eUp D 0 7 x 0 7 = x := by unfold eUp; rw [if_pos ⟨rfl, rfl⟩]
      have y := X2.2.1
      unfold xDc at y ⊢
      simp (disch := omega) only [u, u', jhI_1, if_neg, if_pos, and_self]
      obtain ⟨y1, y2, y3, y4⟩ := y
      refine ⟨y1, y2, ?_, y4⟩
      exact ⟨(by first | rfl | simp only [if_true]), y3.2.1, y3.2.2⟩
    · have u : ∀ a k, ¬ (a = 0 ∧ k = 7) → eUp D 0 7 x a k = D a k := fun a k h => by unfold eUp; rw [if_neg h]
      have u' : eUp D 0 7 x 0 7 = x := by unfold eUp; rw [if_pos ⟨rfl, rfl⟩]
      have y := X2.2.2.1
      unfold xDm at y ⊢
      simp (disch := omega) only [u, u', jhI_1, if_neg, if_pos, and_self]
      obtain ⟨y1, y2, y3, y4⟩ := y
      refine ⟨y1, y2, ?_, y4⟩
      exact ⟨(by first | rfl | simp only [if_true]), y3.2.1, y3.2.2⟩
    · intro k hk
      rw [jhI_1, if_neg (by omega), jhI_2]
      exact X2.2.2.2 k hk
theorem told_soon (hd : d = 84 ∨ d = 98) (X : xW d g np nh D L hc hm) (R : cR n T e s hc) (R' : mR n T e s hm) : xRs n T d s hc hm (Option.bind (fRd_wantsNumber 100 hc) (fun z => some (jhI z.2 d 8 z.1))) (Option.bind (fM_number 0 100 hm) (fun z => some (jhI z.2 144 1 z.1))) := by
  obtain ⟨hdd, h8a, h8b⟩ := xdd_8 hd
  have hdd' := hdd
  unfold xdd at hdd'
  obtain ⟨c2, m2, zc, zm, a1, a2, a3, a4, a5⟩ := num1 (m := 100) (by omega) R R'
  have X2 := xW_s hdd X a3 a4
  refine ⟨jhI c2 d 8 zc, jhI m2 144 1 zm, ?_, ?_, xFc_I (xFc_6 a3) (by omega) _, eFr_I (S := xFm) (xFm_m a4) (xFm_144 (by omega)) _, ?_⟩
  · rw [show fRd_wantsNumber 100 hc = _ from a1, Option.bind_some]
  · rw [show fM_number 0 100 hm = _ from a2, Option.bind_some]
  rcases a5 with ⟨f, pl, b1, b2⟩ | ⟨e', s', x, b1, b2, rfl, rfl, b3, b4, b5⟩
  · exact Or.inl ⟨f, pl, cF_fr b1 (fun k => by rw [jhI_1, if_neg (by omega)]), mF_fr b2 (fun o k hk => by rw [jhI_1, if_neg (by omega)]), xWk_fr (xWk_6 hdd (xW_k X) a3) (fun o k hk => by rw [jhI_1, if_neg (by omega)])⟩
  · refine Or.inr ⟨e', s', g, np, nh, eUp D 0 8 x, L, cR_fr b3 (fun o k hk => by rw [jhI_1, if_neg (by omega)]), mR_fr b4 (fun o k hk => by rw [jhI_1, if_neg (by omega)]), ⟨?_, ?_, ?_, ?_⟩, b5⟩
    · obtain ⟨⟨w1, w2, w3, w4, w5⟩, w6, w7⟩ := X.1
      have u : ∀ a k, ¬ (a = 0 ∧ k = 8) → eUp D 0 8 x a k = D a k := fun a k h => by unfold eUp; rw [if_neg h]
      have u' : eUp D 0 8 x 0 8 = x := by unfold eUp; rw [if_pos ⟨rfl, rfl⟩]
      refine ⟨⟨w1, ?_, ?_, fun k hk => ?_, fun k hk => ?_⟩, ?_, w7⟩
      · simp (disch := omega) only [u, u']
        omega
      · rw [u 0 10 (by omega)]; exact w3
      · rw [u _ _ (by omega), u _ _ (by omega), u _ _ (by omega), u _ _ (by omega)]; exact w4 k hk
      · rw [u _ _ (by omega), u _ _ (by omega)]; exact w5 k hk
      · rw [u 0 10 (by omega)]; exact w6
    · have u : ∀ a k, ¬ (a = 0 ∧ k = 8) → eUp D 0 8 x a k = D a k := fun a k h => by unfold eUp; rw [if_neg h]
      have u' : eUp D 0 8 x 0 8 = x := by unfold eUp; rw [if_pos ⟨rfl, rfl⟩]
      have y := X2.2.1
      unfold xDc at y ⊢
      simp (disch := omega) only [u, u', jhI_1, if_neg, if_pos, and_self]
      obtain ⟨y1, y2, y3, y4⟩ := y
      refine ⟨y1, y2, ?_, y4⟩
      exact ⟨y3.1, (by first | rfl | simp only [if_true]), y3.2.2⟩
    · have u : ∀ a k, ¬ (a = 0 ∧ k = 8) → eUp D 0 8 x a k = D a k := fun a k h => by unfold eUp; rw [if_neg h]
      have u' : eUp D 0 8 x 0 8 = x := by unfold eUp; rw [if_pos ⟨rfl, rfl⟩]
      have y := X2.2.2.1
      unfold xDm at y ⊢
      simp (disch := omega) only [u, u', jhI_1, if_neg, if_pos, and_self]
      obtain ⟨y1, y2, y3, y4⟩ := y
      refine ⟨y1, y2, ?_, y4⟩
      exact ⟨y3.1, (by first | rfl | simp only [if_true]), y3.2.2⟩
    · intro k hk
      rw [jhI_1, if_neg (by omega), jhI_2]
      exact X2.2.2.2 k hk
theorem told_more (hd : d = 84 ∨ d = 98) (X : xW d g np nh D L hc hm) (R : cR n T e s hc) (R' : mR n T e s hm) : xRs n T d s hc hm (Option.bind (fRd_wantsNumber 9 hc) (fun z => some (jhI z.2 d 9 z.1))) (Option.bind (fM_number 0 9 hm) (fun z => some (jhI z.2 144 2 z.1))) := by
  obtain ⟨hdd, h8a, h8b⟩ := xdd_8 hd
  have hdd' := hdd
  unfold xdd at hdd'
  obtain ⟨c2, m2, zc, zm, a1, a2, a3, a4, a5⟩ := num1 (m := 9) (by omega) R R'
  have X2 := xW_s hdd X a3 a4
  refine ⟨jhI c2 d 9 zc, jhI m2 144 2 zm, ?_, ?_, xFc_I (xFc_6 a3) (by omega) _, eFr_I (S := xFm) (xFm_m a4) (xFm_144 (by omega)) _, ?_⟩
  · rw [show fRd_wantsNumber 9 hc = _ from a1, Option.bind_some]
  · rw [show fM_number 0 9 hm = _ from a2, Option.bind_some]
  rcases a5 with ⟨f, pl, b1, b2⟩ | ⟨e', s', x, b1, b2, rfl, rfl, b3, b4, b5⟩
  · exact Or.inl ⟨f, pl, cF_fr b1 (fun k => by rw [jhI_1, if_neg (by omega)]), mF_fr b2 (fun o k hk => by rw [jhI_1, if_neg (by omega)]), xWk_fr (xWk_6 hdd (xW_k X) a3) (fun o k hk => by rw [jhI_1, if_neg (by omega)])⟩
  · refine Or.inr ⟨e', s', g, np, nh, eUp D 0 9 x, L, cR_fr b3 (fun o k hk => by rw [jhI_1, if_neg (by omega)]), mR_fr b4 (fun o k hk => by rw [jhI_1, if_neg (by omega)]), ⟨?_, ?_, ?_, ?_⟩, b5⟩
    · obtain ⟨⟨w1, w2, w3, w4, w5⟩, w6, w7⟩ := X.1
      have u : ∀ a k, ¬ (a = 0 ∧ k = 9) → eUp D 0 9 x a k = D a k := fun a k h => by unfold eUp; rw [if_neg h]
      have u' : eUp D 0 9 x 0 9 = x := by unfold eUp; rw [if_pos ⟨rfl, rfl⟩]
      refine ⟨⟨w1, ?_, ?_, fun k hk => ?_, fun k hk => ?_⟩, ?_, w7⟩
      · simp (disch := omega) only [u, u']
        omega
      · rw [u 0 10 (by omega)]; exact w3
      · rw [u _ _ (by omega), u _ _ (by omega), u _ _ (by omega), u _ _ (by omega)]; exact w4 k hk
      · rw [u _ _ (by omega), u _ _ (by omega)]; exact w5 k hk
      · rw [u 0 10 (by omega)]; exact w6
    · have u : ∀ a k, ¬ (a = 0 ∧ k = 9) → eUp D 0 9 x a k = D a k := fun a k h => by unfold eUp; rw [if_neg h]
      have u' : eUp D 0 9 x 0 9 = x := by unfold eUp; rw [if_pos ⟨rfl, rfl⟩]
      have y := X2.2.1
      unfold xDc at y ⊢
      simp (disch := omega) only [u, u', jhI_1, if_neg, if_pos, and_self]
      obtain ⟨y1, y2, y3, y4⟩ := y
      refine ⟨y1, y2, ?_, y4⟩
      exact ⟨y3.1, y3.2.1, (by first | rfl | simp only [if_true])⟩
    · have u : ∀ a k, ¬ (a = 0 ∧ k = 9) → eUp D 0 9 x a k = D a k := fun a k h => by unfold eUp; rw [if_neg h]
      have u' : eUp D 0 9 x 0 9 = x := by unfold eUp; rw [if_pos ⟨rfl, rfl⟩]
      have y := X2.2.2.1
      unfold xDm at y ⊢
      simp (disch := omega) only [u, u', jhI_1, if_neg, if_pos, and_self]
      obtain ⟨y1, y2, y3, y4⟩ := y
      refine ⟨y1, y2, ?_, y4⟩
      exact ⟨y3.1, y3.2.1, (by first | rfl | simp only [if_true])⟩
    · intro k hk
      rw [jhI_1, if_neg (by omega), jhI_2]
      exact X2.2.2.2 k hk
theorem told_stmt (hd : d = 84 ∨ d = 98) (X : xW d g np nh D L hc hm) (R : cR n T e s hc) (R' : mL n T e s hm) {c : Nat} (c47 : hm.1 110 47 = jz c) (hc60 : c < 60) : ∃ rm, fM_statementTold hm = Option.bind rm fM_statementTold_j172 ∧ xRs n T d s hc hm (fPr_readStatement d hc) rm := by
  obtain ⟨hdd, h8a, h8b⟩ := xdd_8 hd
  have hdd' := hdd
  unfold xdd at hdd'
  have sw : ∀ i, i < 31 → fRd_standsWord (1000 + i) hc = if xHas n T e s (xw i) = true then jz 1 else jz 0 := fun i hi => sRd_word R hi
  have n60 : ¬ hm.1 110 47 = 60 := by rw [c47, show (60 : Int32) = jz 60 from rfl, jz_eq (by omega) (by omega) (by omega) (by omega)]; omega
  have p2 : hm.1 110 2 = jz s := R'.2
  have srl : ∀ i, i < 31 → xHas n T e s (xw i) = true → s ≤ xSk n T (xRun n T xL s) := fun i hi y => by
    have cl := xHas_L (xw_ok hi).1 (xw_ok hi).2.2.2 y
    have rg := xRunL_gt (xHas_iff.mp y).1.1 cl
    have sg := xSk_ge (n := n) (T := T) (s := xRun n T xL s)
    omega
  unfold fM_statementTold fPr_readStatement
  rw [if_neg n60, p2, show fRd_standsWord 1004 hc = _ from sw 4 (by omega)]
  by_cases y4 : xHas n T e s (xw 4) = true
  · obtain ⟨m4, a1, a2, a3⟩ := (sM_takes R'.1 (xMw_o (i := 4) (by omega))).2 y4
    rw [show fM_takes 117 hm = _ from a1, Option.bind_some, if_neg (show ¬ (1 : Int32) = 0 by decide)]
    dsimp only
    refine ⟨fM_guestTold (jz s) m4, rfl, ?_⟩
    rw [if_pos y4, if_neg (show ¬ jz 1 = 0 by decide), Option.bind_fun_some]
    exact xRs_pre (eFr_refl _ _) (eFr_trans (eFr_refl _ hm) a3) (told_guest hd (xW_s hdd X (eFr_refl _ _) (eFr_trans (eFr_refl _ hm) a3)) R y4 a2) (Nat.le_refl _)
  obtain ⟨m4, u4, v4, w4⟩ := (sM_takes R'.1 (xMw_o (i := 4) (by omega))).1 y4
  rw [show fM_takes 117 hm = _ from u4, Option.bind_some, if_pos rfl]
  dsimp only
  rw [if_neg y4, if_pos (show jz 0 = 0 from rfl), show fRd_standsWord 1009 hc = _ from sw 9 (by omega)]
  by_cases y9 : xHas n T e s (xw 9) = true
  · obtain ⟨m9, a1, a2, a3⟩ := (sM_takes v4.1 (xMw_o (i := 9) (by omega))).2 y9
    rw [show fM_takes 122 m4 = _ from a1, Option.bind_some, if_neg (show ¬ (1 : Int32) = 0 by decide)]
    dsimp only
    refine ⟨fM_pullTold (jz s) m9, rfl, ?_⟩
    rw [if_pos y9]; rw [if_neg (show ¬ jz 1 = 0 by decide)]
    exact xRs_pre (eFr_refl _ _) (eFr_trans (eFr_trans (eFr_refl _ hm) w4) a3) (two_pulls hd (xW_s hdd X (eFr_refl _ _) (eFr_trans (eFr_trans (eFr_refl _ hm) w4) a3)) R y9 a2) (Nat.le_refl _)
  obtain ⟨m9, u9, v9, w9⟩ := (sM_takes v4.1 (xMw_o (i := 9) (by omega))).1 y9
  rw [show fM_takes 122 m4 = _ from u9, Option.bind_some, if_pos rfl]
  dsimp only
  rw [if_neg y9, if_pos (show jz 0 = 0 from rfl), show fRd_standsWord 1010 hc = _ from sw 10 (by omega)]
  by_cases y10 : xHas n T e s (xw 10) = true
  · obtain ⟨m10, a1, a2, a3⟩ := (sM_takes v9.1 (xMw_o (i := 10) (by omega))).2 y10
    rw [show fM_takes 123 m9 = _ from a1, Option.bind_some, if_neg (show ¬ (1 : Int32) = 0 by decide)]
    dsimp only
    refine ⟨fM_hearTold (jz s) m10, rfl, ?_⟩
    rw [if_pos y10]; rw [if_neg (show ¬ jz 1 = 0 by decide)]
    exact xRs_pre (eFr_refl _ _) (eFr_trans (eFr_trans (eFr_trans (eFr_refl _ hm) w4) w9) a3) (two_hears hd (xW_s hdd X (eFr_refl _ _) (eFr_trans (eFr_trans (eFr_trans (eFr_refl _ hm) w4) w9) a3)) R y10 a2) (Nat.le_refl _)
  obtain ⟨m10, u10, v10, w10⟩ := (sM_takes v9.1 (xMw_o (i := 10) (by omega))).1 y10
  rw [show fM_takes 123 m9 = _ from u10, Option.bind_some, if_pos rfl]
  dsimp only
  rw [if_neg y10, if_pos (show jz 0 = 0 from rfl), show fRd_standsWord 1011 hc = _ from sw 11 (by omega)]
  by_cases y11 : xHas n T e s (xw 11) = true
  · obtain ⟨m11, a1, a2, a3⟩ := (sM_takes v10.1 (xMw_o (i := 11) (by omega))).2 y11
    rw [show fM_takes 124 m10 = _ from a1, Option.bind_some, if_neg (show ¬ (1 : Int32) = 0 by decide)]
    dsimp only
    refine ⟨fM_lateTold (jz s) m11, rfl, ?_⟩
    rw [if_pos y11]; rw [if_neg (show ¬ jz 1 = 0 by decide), Option.bind_fun_some]
    exact xRs_pre (eFr_refl _ _) (eFr_trans (eFr_trans (eFr_trans (eFr_trans (eFr_refl _ hm) w4) w9) w10) a3) (told_late hd (xW_s hdd X (eFr_refl _ _) (eFr_trans (eFr_trans (eFr_trans (eFr_trans (eFr_refl _ hm) w4) w9) w10) a3)) R y11 a2) (Nat.le_refl _)
  obtain ⟨m11, u11, v11, w11⟩ := (sM_takes v10.1 (xMw_o (i := 11) (by omega))).1 y11
  rw [show fM_takes 124 m10 = _ from u11, Option.bind_some, if_pos rfl]
  dsimp only
  rw [if_neg y11, if_pos (show jz 0 = 0 from rfl)]
  by_cases y12 : xHas n T e s (xw 12) = true
  · obtain ⟨m12, a1, a2, a3⟩ := (sM_takes v11.1 (xMw_o (i := 12) (by omega))).2 y12
    rw [show fM_takes 125 m11 = _ from a1, Option.bind_some, if_neg (show ¬ (1 : Int32) = 0 by decide)]
    dsimp only
    obtain ⟨c2, b1, b2, b3⟩ := (sRd_tword (i := 12) R (by omega)).2 y12
    refine ⟨Option.bind (fM_number 0 10 m12) (fun z => some (jhI z.2 144 0 z.1)), ?_, ?_⟩
    · simp only [if_pos (show jin 0 6 by decide), Option.bind_assoc, Option.bind_some]
      rfl
    · rw [show fRd_takesWord 1012 hc = _ from b1, Option.bind_some, if_neg (show ¬ (1 : Int32) = 0 by decide)]
      exact xRs_pre b3 (eFr_trans (eFr_trans (eFr_trans (eFr_trans (eFr_trans (eFr_refl _ hm) w4) w9) w10) w11) a3) (told_maybe hd (xW_s hdd X b3 (eFr_trans (eFr_trans (eFr_trans (eFr_trans (eFr_trans (eFr_refl _ hm) w4) w9) w10) w11) a3)) b2 a2) (srl 12 (by omega) y12)
  obtain ⟨m12, u12, v12, w12⟩ := (sM_takes v11.1 (xMw_o (i := 12) (by omega))).1 y12
  rw [show fM_takes 125 m11 = _ from u12, Option.bind_some, if_pos rfl]
  dsimp only
  rw [show fRd_takesWord 1012 hc = _ from (sRd_tword (i := 12) R (by omega)).1 y12, Option.bind_some, if_pos rfl]
  dsimp only
  by_cases y13 : xHas n T e s (xw 13) = true
  · obtain ⟨m13, a1, a2, a3⟩ := (sM_takes v12.1 (xMw_o (i := 13) (by omega))).2 y13
    rw [show fM_takes 126 m12 = _ from a1, Option.bind_some, if_neg (show ¬ (1 : Int32) = 0 by decide)]
    dsimp only
    obtain ⟨c2, b1, b2, b3⟩ := (sRd_tword (i := 13) R (by omega)).2 y13
    refine ⟨Option.bind (fM_number 0 100 m13) (fun z => some (jhI z.2 144 1 z.1)), ?_, ?_⟩
    · simp only [if_pos (show jin 1 6 by decide), Option.bind_assoc, Option.bind_some]
      rfl
    · rw [show fRd_takesWord 1013 hc = _ from b1, Option.bind_some, if_neg (show ¬ (1 : Int32) = 0 by decide)]
      exact xRs_pre b3 (eFr_trans (eFr_trans (eFr_trans (eFr_trans (eFr_trans (eFr_trans (eFr_refl _ hm) w4) w9) w10) w11) w12) a3) (told_soon hd (xW_s hdd X b3 (eFr_trans (eFr_trans (eFr_trans (eFr_trans (eFr_trans (eFr_trans (eFr_refl _ hm) w4) w9) w10) w11) w12) a3)) b2 a2) (srl 13 (by omega) y13)
  obtain ⟨m13, u13, v13, w13⟩ := (sM_takes v12.1 (xMw_o (i := 13) (by omega))).1 y13
  rw [show fM_takes 126 m12 = _ from u13, Option.bind_some, if_pos rfl]
  dsimp only
  rw [show fRd_takesWord 1013 hc = _ from (sRd_tword (i := 13) R (by omega)).1 y13, Option.bind_some, if_pos rfl]
  dsimp only
  have hin : ∀ x : jH, Option.bind (fM_number 0 9 x) (fun z16 => if jin 2 6 then fM_statementTold_j172 (jhI z16.2 144 (2 : Int32).toNatClampNeg z16.1) else none) = Option.bind (Option.bind (fM_number 0 9 x) (fun z => some (jhI z.2 144 2 z.1))) fM_statementTold_j172 := by
    intro x
    simp only [if_pos (show jin 2 6 by decide), Option.bind_assoc, Option.bind_some]
    rfl
  by_cases y14 : xHas n T e s (xw 14) = true
  · obtain ⟨m14, a1, a2, a3⟩ := (sM_asks v13.1 (xMw_o (i := 14) (by omega))).2 y14
    obtain ⟨c2, b1, b2, b3⟩ := (sRd_tword (i := 14) R (by omega)).2 y14
    rw [show fM_asks 127 m13 = _ from a1, Option.bind_some, hin]
    refine ⟨_, rfl, ?_⟩
    rw [show fRd_takesWord 1014 hc = _ from b1, Option.bind_some, if_neg (show ¬ (1 : Int32) = 0 by decide)]
    exact xRs_pre b3 (eFr_trans (eFr_trans (eFr_trans (eFr_trans (eFr_trans (eFr_trans (eFr_trans (eFr_refl _ hm) w4) w9) w10) w11) w12) w13) a3) (told_more hd (xW_s hdd X b3 (eFr_trans (eFr_trans (eFr_trans (eFr_trans (eFr_trans (eFr_trans (eFr_trans (eFr_refl _ hm) w4) w9) w10) w11) w12) w13) a3)) b2 a2) (srl 14 (by omega) y14)
  · obtain ⟨m14, a1, a2, a3⟩ := (sM_asks v13.1 (xMw_o (i := 14) (by omega))).1 y14
    have fl := sRd_hereR R (f := 1) (by omega)
    rw [show fM_asks 127 m13 = _ from a1, Option.bind_some, hin]
    refine ⟨_, rfl, ?_⟩
    rw [show fRd_takesWord 1014 hc = _ from (sRd_tword (i := 14) R (by omega)).1 y14, Option.bind_some, if_pos rfl, sM_numberF a2, Option.bind_some]
    exact ⟨_, _, rfl, rfl, xFc_6 fl.2, eFr_I (S := xFm) (xFm_m (eFr_trans (eFr_trans (eFr_trans (eFr_trans (eFr_trans (eFr_trans (eFr_trans (eFr_refl _ hm) w4) w9) w10) w11) w12) w13) a3)) (xFm_144 (by omega)) _, Or.inl ⟨1, s, fl.1, mF_fr a2 (fun o k hk => by rw [jhI_1, if_neg (by omega)]), xWk_6 hdd (xW_k X) fl.2⟩⟩
end XI
