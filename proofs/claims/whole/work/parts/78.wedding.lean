/-! Call: wedding -/
def xsp (o k : Nat) : Prop := (o = 110 ∧ (k = 1 ∨ k = 7 ∨ k = 8)) ∨ (o = 112 ∧ k = 1) ∨ (o = 97 ∧ k = 1) ∨ (o = 1 ∧ (k = 14 ∨ k = 15)) ∨ (o = 2 ∧ k = 1)
def xsp2 (o k : Nat) : Prop := (11 ≤ o ∧ o ≤ 13) ∨ (o = 17 ∧ k = 1) ∨ (o = 1 ∧ k = 12) ∨ xSd o k
theorem xFd_S0 {d o k : Nat} (h : xFd d o k) : jS0 d o k := by
  rcases h with rfl | h
  · exact Or.inl ⟨by omega, by omega⟩
  · exact Or.inr (Or.inr (Or.inr (Or.inr (Or.inr (Or.inr (Or.inr (Or.inl h)))))) |>.elim (fun h => Or.inr (Or.inr (Or.inr (Or.inr (Or.inr (Or.inr (Or.inl h)))))) ) (fun h => h))
theorem xFn_S0 {d o k : Nat} (h : xFn o k) : jS0 d o k ∨ xsp o k := by
  unfold xFn xFl xFm xg at h
  rcases h with ((((rfl | rfl | ⟨rfl, h⟩) | h | h | h | h | h | h | h | h | h | h | ⟨rfl, h⟩) | ⟨rfl, rfl⟩) | ⟨rfl, h⟩)
  · exact Or.inl (by simp [jS0])
  · exact Or.inl (by simp [jS0])
  · refine Or.inl ?_
    rcases h with rfl | rfl | rfl | rfl | rfl | rfl | rfl | rfl | rfl <;> simp [jS0]
  · exact Or.inl (by simp [jS0, h])
  · exact Or.inl (by simp [jS0, h])
  · exact Or.inl (by simp [jS0, h])
  · exact Or.inl (by simp [jS0, h])
  · exact Or.inl (by simp [jS0, h])
  · exact Or.inl (by simp [jS0, h])
  · exact Or.inl (by simp [jS0, h])
  · exact Or.inl (by simp [jS0, h])
  · exact Or.inl (by simp [jS0, h])
  · exact Or.inl (by simp [jS0, h])
  · refine Or.inl ?_
    rcases h with rfl | rfl <;> simp [jS0]
  · exact Or.inl (by simp [jS0])
  · rcases h with rfl | rfl
    · exact Or.inr (Or.inl ⟨rfl, Or.inl rfl⟩)
    · exact Or.inl (by simp [jS0])
theorem iWed_sp {p d : Nat} {q : Nat → Nat} {h y : jH} (hpd : iPD p d) (hq : jq0 q) (V : iWed p q h) (e : ∀ o k, ¬ jS0 d o k → ¬ xsp o k → y.1 o k = h.1 o k) (e2 : ∀ o k, ¬ jS0 d o k → y.2 o k = h.2 o k) : iWed p q y := by
  have hpd' := hpd
  unfold iPD at hpd'
  exact iWed_fr hq (fun o k hk => e o k (by rcases hk with (hk | hk | hk) | hk | hk <;> (unfold jS0; omega)) (by rcases hk with (hk | hk | hk) | hk | hk <;> (unfold xsp; omega))) (fun k hk => e2 _ _ (by unfold jS0; omega)) V
theorem call_2 : jcal_2 jInv := by
  intro p d q h V
  obtain ⟨hpd, hq, v1, ⟨n, T, tn, t1, t2, t3⟩, v3, v4, v5, v6, v7⟩ := V
  have hpd' := hpd
  unfold iPD at hpd'
  have hd : d = 84 ∨ d = 98 := by omega
  have tc : xTc n T h := ⟨tn, t1, fun k hk => ⟨(t3 k hk).1, (t3 k hk).2.1⟩⟩
  have tm0 : xTm n T h := ⟨tn, fun k hk => ⟨(t3 k hk).1, (t3 k hk).2.2⟩⟩
  obtain ⟨x, hc', m0, e1, -, fc, -, -, dj⟩ := told_text hd tc tm0 v1 t2
  have fcS : eFr (jS0 d) h hc' := eFr_mono fc (fun o k hk => xFd_S0 hk)
  obtain ⟨hA, hhA⟩ : ∃ hA, hA = jhI (jhI (jhI hc' 1 14 (hc'.1 6 5)) 1 15 (hc'.1 6 6)) 2 1 (jz 0) := ⟨_, rfl⟩
  have c21 : hc'.1 2 1 = jz n := by rw [fc.1 _ _ (by unfold xFd; omega)]; exact t1
  have close : fA_closeReading hc' = hA := by
    unfold fA_closeReading fTp_cut fRd_firstFault fRd_firstPlace
    have u1 : (jhI (jhI hc' 1 14 (hc'.1 6 5)) 1 15 ((jhI hc' 1 14 (hc'.1 6 5)).1 6 6)).1 2 1 = jz n := by rw [jhI_1, if_neg (by omega), jhI_1, if_neg (by omega)]; exact c21
    rw [if_neg (show ¬ (0 : Int32) < 0 by decide), u1, if_neg (by rw [show (0 : Int32) = jz 0 from rfl, jz_lt (by omega) (by omega) (by omega) (by omega)]; omega), hhA, jhI_1, if_neg (by omega)]
    rfl
  have kA : ∀ o k, ¬ (o = 1 ∧ (k = 14 ∨ k = 15)) → ¬ (o = 2 ∧ k = 1) → hA.1 o k = hc'.1 o k := fun o k n1 n2 => by rw [hhA, jhI_1, if_neg n2, jhI_1, if_neg (by omega), jhI_1, if_neg (by omega)]
  have A14 : hA.1 1 14 = hc'.1 6 5 := by rw [hhA, jhI_1, if_neg (by omega), jhI_1, if_neg (by omega), jhI_1, if_pos ⟨rfl, rfl⟩]
  have A15 : hA.1 1 15 = hc'.1 6 6 := by rw [hhA, jhI_1, if_neg (by omega), jhI_1, if_pos ⟨rfl, rfl⟩]
  have A2 : hA.2 = hc'.2 := by rw [hhA]; rfl
  have A21 : hA.1 2 1 = jz 0 := by rw [hhA, jhI_1, if_pos ⟨rfl, rfl⟩]
  have l2c : ∀ o k, hc'.2 o k = h.2 o k ∨ jS0 d o k := fun o k => by
    by_cases z : jS0 d o k
    · exact Or.inr z
    · exact Or.inl (fcS.2 _ _ z)
  rcases dj with ⟨f, pl, b1, -⟩ | ⟨e9, c9, g9, np9, nh9, D9, L9, -, -, b1, -⟩
  · -- a fault
    obtain ⟨hR, hhR⟩ : ∃ hR, hR = jhI hA 97 1 (hA.1 97 1 + 1) := ⟨_, rfl⟩
    have kR : ∀ o k, ¬ (o = 97 ∧ k = 1) → hR.1 o k = hA.1 o k := fun o k n1 => by rw [hhR, jhI_1, if_neg n1]
    have R2 : hR.2 = hA.2 := by rw [hhR]; rfl
    have clA : fA_wedding p d h = some (-1, p, d, hR) := by
      unfold fA_wedding
      rw [e1, Option.bind_some]
      dsimp only
      rw [close, A14, b1.2.2.1, if_neg (by have := b1.1; have := b1.2.1; rw [show (0 : Int32) = jz 0 from rfl, jz_eq (by omega) (by omega) (by omega) (by omega)]; omega), show fA_refuse 1 hA = _ from sA_refuse (k := 1) (by omega) hA, Option.bind_some, hhR]
    have hkR : ∀ o k, ¬ xFd d o k → ¬ (o = 1 ∧ (k = 14 ∨ k = 15)) → ¬ (o = 2 ∧ k = 1) → ¬ (o = 97 ∧ k = 1) → hR.1 o k = h.1 o k := fun o k n1 n2 n3 n4 => by rw [kR _ _ n4, kA _ _ n2 n3, fc.1 _ _ n1]
    have tm : xTm n T hR := xTm_fr tm0 (fun k => hkR _ _ (by unfold xFd; omega) (by omega) (by omega) (by omega))
    have wR : eWd hR := eWd_fr (fun o k hk => hkR _ _ (by unfold xFd; omega) (by omega) (by omega) (by omega)) v1
    have m1R : hR.1 110 1 = jz n := by rw [hkR _ _ (by unfold xFd; omega) (by omega) (by omega) (by omega)]; exact t2
    obtain ⟨x2, hc2, hm', e2, mw, -, fm, m1', dj2⟩ := told_text hd tc tm wR m1R
    rw [e1] at e2
    obtain ⟨rfl, rfl⟩ : x = x2 ∧ hc' = hc2 := by
      have := Option.some.inj e2
      exact ⟨congrArg Prod.fst this, congrArg Prod.snd this⟩
    rcases dj2 with ⟨f2, pl2, d1, d2⟩ | ⟨e9, c9, g9, np9, nh9, D9, L9, -, -, d1, -⟩
    · obtain ⟨q1, q2, q3, q4, q5, q6, q7, q8⟩ := d2
      have n5 : ¬ (jhI (jhI hm' 110 7 (hm'.1 110 5)) 110 8 (hm'.1 110 6)).1 110 5 = 0 := by
        rw [jhI_1, if_neg (by omega), jhI_1, if_neg (by omega), q7, show (0 : Int32) = jz 0 from rfl, jz_eq (by omega) (by omega) (by omega) (by omega)]
        omega
      obtain ⟨y, hy⟩ : ∃ y, y = jhI (jhI (jhI hm' 110 7 (hm'.1 110 5)) 110 8 (hm'.1 110 6)) 112 1 ((jhI (jhI hm' 110 7 (hm'.1 110 5)) 110 8 (hm'.1 110 6)).1 112 1 + 1) := ⟨_, rfl⟩
      have clM : fM_wedding hR = some (-1, y) := by
        rw [mw]
        unfold kW
        rw [if_neg n5, hy]
      have ky : ∀ o k, ¬ (o = 110 ∧ (k = 7 ∨ k = 8)) → ¬ (o = 112 ∧ k = 1) → y.1 o k = hm'.1 o k := fun o k n1 n2 => by rw [hy, jhI_1, if_neg n2, jhI_1, if_neg (by omega), jhI_1, if_neg (by omega)]
      have y2 : y.2 = hm'.2 := by rw [hy]; rfl
      have n112 : ¬ xFn 112 1 := by unfold xFn xFl xFm xg; omega
      have e : ∀ o k, ¬ jS0 d o k → ¬ xsp o k → y.1 o k = h.1 o k := fun o k n1 n2 => by
        have n3 : ¬ xFn o k := fun t => (xFn_S0 t).elim n1 n2
        have n4 : ¬ xFd d o k := fun t => n1 (xFd_S0 t)
        unfold xsp at n2
        rw [ky _ _ (by omega) (by omega), fm.1 _ _ n3, hkR _ _ n4 (by omega) (by omega) (by omega)]
      have e2' : ∀ o k, ¬ jS0 d o k → ¬ xsp o k → y.2 o k = h.2 o k := fun o k n1 n2 => by
        have n3 : ¬ xFn o k := fun t => (xFn_S0 t).elim n1 n2
        rw [y2, fm.2 _ _ n3, R2, A2, fcS.2 _ _ n1]
      refine ⟨_, clA, _, clM, rfl, ?_⟩
      show jInv p d q y
      refine ⟨hpd, hq, eWd_fr (fun o k hk => e o k (by unfold jS0; omega) (by unfold xsp; omega)) v1, ⟨0, T, by omega, ?_, ?_, fun k hk => by omega⟩, ⟨?_, ?_⟩, fun k hk => ?_, iSeed_fr (e _ _ (by unfold jS0; omega) (by unfold xsp; omega)) (e2' _ _ (by unfold jS0; omega) (by unfold xsp; omega)) v5, iPic_fr (fun o k hk => e o k (by unfold jS0; omega) (by unfold xsp; omega)) v6, ?_⟩
      · rw [ky _ _ (by omega) (by omega), fm.1 _ _ (by unfold xFn xFl xFm xg; omega), kR _ _ (by omega), A21]; rfl
      · rw [ky _ _ (by omega) (by omega), m1']; rfl
      · rw [ky _ _ (by omega) (by omega), fm.1 _ _ (by unfold xFn xFl xFm xg; omega), kR _ _ (by omega), A14, hy, jhI_1, if_neg (by omega), jhI_1, if_neg (by omega), jhI_1, if_pos ⟨rfl, rfl⟩, q7]
        exact d1.2.2.1
      · rw [ky _ _ (by omega) (by omega), fm.1 _ _ (by unfold xFn xFl xFm xg; omega), kR _ _ (by omega), A15, hy, jhI_1, if_neg (by omega), jhI_1, if_pos ⟨rfl, rfl⟩, q8]
        exact d1.2.2.2.1
      · by_cases z : k = 1
        · subst z
          have a97 : y.1 97 1 = h.1 97 1 + 1 := by
            rw [ky _ _ (by omega) (by omega), fm.1 _ _ (by unfold xFn xFl xFm xg; omega), hhR, jhI_1, if_pos ⟨rfl, rfl⟩, kA _ _ (by omega) (by omega), fc.1 _ _ (by unfold xFd; omega)]
          have a112 : y.1 112 1 = h.1 112 1 + 1 := by
            rw [hy, jhI_1, if_pos ⟨rfl, rfl⟩, jhI_1, if_neg (by omega), jhI_1, if_neg (by omega), fm.1 _ _ n112, hkR _ _ (by unfold xFd; omega) (by omega) (by omega) (by omega)]
          rw [a97, a112, v4 1 (by omega)]
        · rw [e 97 k (by unfold jS0; omega) (by unfold xsp; omega), e 112 k (by unfold jS0; omega) (by unfold xsp; omega)]
          exact v4 k hk
      · refine iWed_fr hq (fun o k hk => e o k (by rcases hk with (hk | hk | hk) | hk | hk <;> (unfold jS0; omega)) (by rcases hk with (hk | hk | hk) | hk | hk <;> (unfold xsp; omega))) (fun k hk => e2' _ _ (by unfold jS0; omega) (by unfold xsp; omega)) v7
    · exact (cR_cF d1 b1).elim
  · -- it is THE WEDDING
    obtain ⟨z5, s1, s2, s3, s4, s5⟩ := sSd_clear2 (o := 11) (h := hA)
    obtain ⟨hR, hhR⟩ : ∃ hR, hR = jhI (jhI z5 17 1 (jz 0)) 1 12 (jz 1) := ⟨_, rfl⟩
    have kR : ∀ o k, ¬ (11 ≤ o ∧ o ≤ 13) → ¬ (o = 17 ∧ k = 1) → ¬ (o = 1 ∧ k = 12) → hR.1 o k = hA.1 o k := fun o k n1 n2 n3 => by rw [hhR, jhI_1, if_neg n3, jhI_1, if_neg n2, s2.1 _ _ (by omega)]
    have R2 : ∀ o k, ¬ (11 ≤ o ∧ o ≤ 13) → hR.2 o k = hA.2 o k := fun o k n1 => by
      rw [hhR]
      exact s2.2 _ _ (by omega)
    have a14 : hA.1 1 14 = jz 0 := by rw [A14]; exact b1.2.2.2.2.2.2.2.1
    have a15 : hA.1 1 15 = jz (-1) := by rw [A15]; exact b1.2.2.2.2.2.2.2.2
    have clA : fA_wedding p d h = some (x, d, p, hR) := by
      unfold fA_wedding
      rw [e1, Option.bind_some]
      dsimp only
      rw [close, a14, if_pos (show jz 0 = 0 from rfl)]
      unfold fPy_adopt fPa_clear
      dsimp only
      rw [s1, Option.bind_some, hhR]
      rfl
    have hkR : ∀ o k, ¬ xFd d o k → ¬ (o = 1 ∧ (k = 14 ∨ k = 15)) → ¬ (o = 2 ∧ k = 1) → ¬ (11 ≤ o ∧ o ≤ 13) → ¬ (o = 17 ∧ k = 1) → ¬ (o = 1 ∧ k = 12) → hR.1 o k = h.1 o k := fun o k n1 n2 n3 n4 n5 n6 => by rw [kR _ _ n4 n5 n6, kA _ _ n2 n3, fc.1 _ _ n1]
    have tm : xTm n T hR := xTm_fr tm0 (fun k => hkR _ _ (by unfold xFd; omega) (by omega) (by omega) (by omega) (by omega) (by omega))
    have wR : eWd hR := eWd_fr (fun o k hk => hkR _ _ (by unfold xFd; omega) (by omega) (by omega) (by omega) (by omega) (by omega)) v1
    have m1R : hR.1 110 1 = jz n := by rw [hkR _ _ (by unfold xFd; omega) (by omega) (by omega) (by omega) (by omega) (by omega)]; exact t2
    obtain ⟨x2, hc2, hm', e2, mw, -, fm, m1', dj2⟩ := told_text hd tc tm wR m1R
    rw [e1] at e2
    obtain ⟨rfl, rfl⟩ : x = x2 ∧ hc' = hc2 := by
      have := Option.some.inj e2
      exact ⟨congrArg Prod.fst this, congrArg Prod.snd this⟩
    rcases dj2 with ⟨f2, pl2, d1, -⟩ | ⟨e9, c', g, np, nh, D, L, rfl, k47, d1, d2, X, far⟩
    · exact (cR_cF b1 d1).elim
    · obtain ⟨q1, q2, q3, q4, q5, q6, q7, q8, q9⟩ := d2
      obtain ⟨w, hw⟩ : ∃ w, w = jhI (jhI hm' 110 7 (hm'.1 110 5)) 110 8 (hm'.1 110 6) := ⟨_, rfl⟩
      have kw : ∀ o k, ¬ (o = 110 ∧ (k = 7 ∨ k = 8)) → w.1 o k = hm'.1 o k := fun o k n1 => by rw [hw, jhI_1, if_neg (by omega), jhI_1, if_neg (by omega)]
      have w2 : w.2 = hm'.2 := by rw [hw]; rfl
      obtain ⟨⟨xb1, xb2, xb3, xb4, xb5, xb6⟩, xc, xm', xn⟩ := X
      obtain ⟨y, y1, y2, y3, y4, y5, y6, y7, y8, y9, y10, y11, y12⟩ := stands_ok (h := w) (m := L.length) (by rw [kw _ _ (by omega)]; exact xm'.2.2.2.2.2.1) xb5
      have clM : fM_wedding hR = some (jz (c' : Int), y) := by
        rw [mw]
        unfold kW
        rw [← hw, kw _ _ (by omega), q8, if_pos (show jz 0 = 0 from rfl), y1, Option.bind_some, y2.1 _ _ (by unfold xSd xSt7 xSt8; omega), kw _ _ (by omega), k47]
      -- all that is neither free nor special stays
      have ky : ∀ o k, ¬ xSd o k → ¬ (o = 110 ∧ (k = 7 ∨ k = 8)) → y.1 o k = hm'.1 o k := fun o k n1 n2 => by rw [y2.1 _ _ n1, kw _ _ n2]
      have e : ∀ o k, ¬ jS0 d o k → ¬ xsp o k → ¬ xsp2 o k → y.1 o k = h.1 o k := fun o k n1 n2 n2' => by
        have n3 : ¬ xFn o k := fun t => (xFn_S0 t).elim n1 n2
        have n4 : ¬ xFd d o k := fun t => n1 (xFd_S0 t)
        unfold xsp2 at n2'
        have n5 : ¬ xSd o k := fun t => n2' (Or.inr (Or.inr (Or.inr t)))
        unfold xsp at n2
        rw [ky _ _ n5 (by omega), fm.1 _ _ n3, hkR _ _ n4 (by omega) (by omega) (by omega) (by omega) (by omega)]
      have cls : ∀ o k, d ≤ o → o ≤ d + 11 → y.1 o k = hc'.1 o k := fun o k n1 n2 => by
        rw [ky _ _ (by unfold xSd xSt7 xSt8; omega) (by omega), fm.1 _ _ (by unfold xFn xFl xFm xg; omega), kR _ _ (by omega) (by omega) (by omega), kA _ _ (by omega) (by omega)]
      have ref : ∀ o k, ¬ xSd o k → ¬ (o = 110 ∧ (k = 7 ∨ k = 8)) → y.1 o k = hm'.1 o k := ky
      have clR : ∀ o k, ¬ xSd o k → ¬ (o = 110 ∧ (k = 7 ∨ k = 8)) → ¬ xFn o k → y.1 o k = hR.1 o k := fun o k n1 n2 n3 => by rw [ky _ _ n1 n2, fm.1 _ _ n3]
      have e2' : ∀ o k, ¬ jS0 d o k → ¬ xsp o k → ¬ xsp2 o k → y.2 o k = h.2 o k := fun o k n1 n2 n2' => by
        have n3 : ¬ xFn o k := fun t => (xFn_S0 t).elim n1 n2
        unfold xsp2 at n2'
        have n5 : ¬ xSd o k := fun t => n2' (Or.inr (Or.inr (Or.inr t)))
        rw [y2.2 _ _ n5, w2, fm.2 _ _ n3, R2 _ _ (by omega), A2, fcS.2 _ _ n1]
      refine ⟨_, clA, _, clM, rfl, ?_⟩
      show jInv d p q y
      -- the numbers of the wedding
      obtain ⟨D2, hD2⟩ : ∃ D2 : jD, D2 = fun a k => if a = 9 then (if k < g then ((jfarN g (ePD D) k : Nat) : Int) else 0) else D a k := ⟨_, rfl⟩
      have u : ∀ a k, a ≠ 9 → D2 a k = D a k := fun a k h9 => by rw [hD2]; show (if a = 9 then _ else D a k) = _; rw [if_neg h9]
      have u9 : ∀ k, k < 8 → hc'.1 (d + 8) k = jz (D2 9 k) := fun k hk => by
        have e0 : D2 9 k = if k < g then ((jfarN g (ePD D) k : Nat) : Int) else 0 := by rw [hD2]; rfl
        rw [e0]
        by_cases z : k < g
        · rw [if_pos z]; exact far.1 k z
        · rw [if_neg z]; exact far.2 k (by omega) hk
      have bD : bV g D2 := by
        obtain ⟨w1, w2, w3, w4, w5⟩ := xb1
        refine ⟨w1, ?_, ?_, fun k hk => ?_, fun k hk => ?_⟩
        · simp (disch := omega) only [u]; exact w2
        · rw [u 0 10 (by omega)]; exact w3
        · rw [u _ _ (by omega), u _ _ (by omega), u _ _ (by omega), u _ _ (by omega)]; exact w4 k hk
        · rw [u _ _ (by omega), u _ _ (by omega)]; exact w5 k hk
      obtain ⟨S0, hS0⟩ : ∃ S0 : jD, S0 = fun a k => if a = 0 ∧ k = 2 then -1 else 0 := ⟨_, rfl⟩
      have S02 : S0 0 2 = -1 := by rw [hS0]; rfl
      have S01 : S0 0 1 = 0 := by rw [hS0]; rfl
      have S1 : ∀ k, S0 1 k = 0 := fun k => by rw [hS0]; rfl
      have S2 : ∀ k, S0 2 k = 0 := fun k => by rw [hS0]; rfl
      obtain ⟨x1, x2', x3, x4, x5, x6, x7⟩ := xc
      obtain ⟨z1, z2, z3, z4, z5', z6, z7, z8⟩ := xm'
      have wv : ∀ o k, ¬ (o = 110 ∧ (k = 7 ∨ k = 8)) → w.1 o k = hm'.1 o k := kw
      refine ⟨by unfold iPD; omega, hq, eWd_fr (fun o k hk => e o k (by unfold jS0; omega) (by unfold xsp; omega) (by unfold xsp2 xSd xSt7 xSt8; omega)) v1, ⟨0, T, by omega, ?_, ?_, fun k hk => by omega⟩, ⟨?_, ?_⟩, fun k hk => ?_, iSeed_fr (e _ _ (by unfold jS0; omega) (by unfold xsp; omega) (by unfold xsp2 xSd xSt7 xSt8; omega)) (e2' _ _ (by unfold jS0; omega) (by unfold xsp; omega) (by unfold xsp2 xSd xSt7 xSt8; omega)) v5, iPic_fr (fun o k hk => e o k (by unfold jS0; omega) (by unfold xsp; omega) (by unfold xsp2 xSd xSt7 xSt8; omega)) v6, ⟨g, D2, S0, L, ⟨bD, ⟨?_, ⟨?_, ?_, ?_, ?_⟩, ⟨?_, fun _ => ⟨?_, ?_, ?_⟩⟩, fun k hk => ⟨?_, ?_, ?_, ?_⟩, fun k hk => ⟨?_, ?_, ?_⟩⟩, ⟨?_, ⟨?_, ?_, ?_, ?_⟩, ⟨?_, fun _ => ⟨?_, ?_, ?_⟩⟩, fun k hk => ⟨?_, ?_, ?_, ?_⟩, fun k hk => ⟨?_, ?_⟩⟩, ⟨xb5, ?_, fun j hj => ?_, fun hL => ?_, fun hL => ⟨(xb6 hL).1, ?_, ?_, fun j hj => ⟨?_, ?_⟩⟩⟩, fun k hk => ?_, ?_, fun k hk => ?_⟩, ⟨⟨?_, ?_, ?_, ?_, fun k hk => ?_⟩, ⟨?_, ?_, fun k hk => ⟨?_, ?_⟩⟩, ⟨?_, ?_, fun k hk => ⟨?_, ?_⟩⟩⟩, ?_⟩⟩
      -- tape
      · rw [clR _ _ (by unfold xSd xSt7 xSt8; omega) (by omega) (by unfold xFn xFl xFm xg; omega), kR _ _ (by omega) (by omega) (by omega), A21]; rfl
      · rw [ref _ _ (by unfold xSd xSt7 xSt8; omega) (by omega), m1']; rfl
      -- fault
      · rw [clR _ _ (by unfold xSd xSt7 xSt8; omega) (by omega) (by unfold xFn xFl xFm xg; omega), kR _ _ (by omega) (by omega) (by omega), a14, y2.1 _ _ (by unfold xSd xSt7 xSt8; omega), hw, jhI_1, if_neg (by omega), jhI_1, if_pos ⟨rfl, rfl⟩, q8]
      · rw [clR _ _ (by unfold xSd xSt7 xSt8; omega) (by omega) (by unfold xFn xFl xFm xg; omega), kR _ _ (by omega) (by omega) (by omega), a15, y2.1 _ _ (by unfold xSd xSt7 xSt8; omega), hw, jhI_1, if_pos ⟨rfl, rfl⟩, q9]
      · rw [clR 97 k (by unfold xSd xSt7 xSt8; omega) (by omega) (by unfold xFn xFl xFm xg; omega), clR 112 k (by unfold xSd xSt7 xSt8; omega) (by omega) (by unfold xFn xFl xFm xg; omega), hkR 97 k (by unfold xFd; omega) (by omega) (by omega) (by omega) (by omega) (by omega), hkR 112 k (by unfold xFd; omega) (by omega) (by omega) (by omega) (by omega) (by omega)]
        exact v4 k hk
      -- the class's wedding
      · rw [cls _ _ (by omega) (by omega)]; exact x1.1
      · rw [cls _ _ (by omega) (by omega), u _ _ (by omega)]; exact x2'.1
      · rw [cls _ _ (by omega) (by omega), u _ _ (by omega)]; exact x2'.2.1
      · rw [cls _ _ (by omega) (by omega), u _ _ (by omega)]; exact x2'.2.2.1
      · rw [cls _ _ (by omega) (by omega), u _ _ (by omega)]; exact x2'.2.2.2
      · rw [u _ _ (by omega), xb2, clR _ _ (by unfold xSd xSt7 xSt8; omega) (by omega) (by unfold xFn xFl xFm xg; omega), hhR, jhI_1, if_pos ⟨rfl, rfl⟩]
      · rw [cls _ _ (by omega) (by omega), u _ _ (by omega)]; exact x3.1
      · rw [cls _ _ (by omega) (by omega), u _ _ (by omega)]; exact x3.2.1
      · rw [cls _ _ (by omega) (by omega), u _ _ (by omega)]; exact x3.2.2
      · rw [cls _ _ (by omega) (by omega), u _ _ (by omega)]; exact (x4 k hk).1
      · rw [cls _ _ (by omega) (by omega), u _ _ (by omega)]; exact (x4 k hk).2.1
      · rw [cls _ _ (by omega) (by omega), u _ _ (by omega)]; exact (x4 k hk).2.2.1
      · rw [cls _ _ (by omega) (by omega), u _ _ (by omega)]; exact (x4 k hk).2.2.2
      · rw [cls _ _ (by omega) (by omega), u _ _ (by omega)]; exact (x5 k hk).1
      · rw [cls _ _ (by omega) (by omega), u _ _ (by omega)]; exact (x5 k hk).2
      · rw [cls _ _ (by omega) (by omega)]; exact u9 k hk
      -- the reference's
      · rw [show y.1 138 3 = _ from (y3 0 (by omega)).1, wv _ _ (by omega)]; exact z1.1
      · rw [show y.1 140 4 = _ from y5 0 (by omega), wv _ _ (by omega), u _ _ (by omega)]; exact z2.1
      · rw [show y.1 140 5 = _ from y5 1 (by omega), wv _ _ (by omega), u _ _ (by omega)]; exact z2.2.1
      · rw [show y.1 140 6 = _ from y5 2 (by omega), wv _ _ (by omega), u _ _ (by omega)]; exact z2.2.2.1
      · rw [show y.1 140 7 = _ from y5 3 (by omega), wv _ _ (by omega), u _ _ (by omega)]; exact z2.2.2.2
      · rw [y11, u _ _ (by omega), xb2]
      · rw [show y.1 144 3 = _ from (y3 0 (by omega)).2, wv _ _ (by omega), u _ _ (by omega)]; exact z3.1
      · rw [show y.1 144 4 = _ from (y3 1 (by omega)).2, wv _ _ (by omega), u _ _ (by omega)]; exact z3.2.1
      · rw [show y.1 144 5 = _ from (y3 2 (by omega)).2, wv _ _ (by omega), u _ _ (by omega)]; exact z3.2.2
      · have b0 := xb1.1
        rw [y6 (4 * k) (by omega), wv _ _ (by omega), u _ _ (by omega)]; exact (z4 k hk).1
      · have b0 := xb1.1
        rw [show 33 + 4 * k = 32 + (4 * k + 1) by omega, y6 (4 * k + 1) (by omega), wv _ _ (by omega), u _ _ (by omega)]; exact (z4 k hk).2.1
      · have b0 := xb1.1
        rw [show 34 + 4 * k = 32 + (4 * k + 2) by omega, y6 (4 * k + 2) (by omega), wv _ _ (by omega), u _ _ (by omega)]; exact (z4 k hk).2.2.1
      · have b0 := xb1.1
        rw [show 35 + 4 * k = 32 + (4 * k + 3) by omega, y6 (4 * k + 3) (by omega), wv _ _ (by omega), u _ _ (by omega)]; exact (z4 k hk).2.2.2
      · rw [(y4 k hk).2.1, wv _ _ (by omega), u _ _ (by omega)]; exact (z5' k hk).1
      · rw [(y4 k hk).2.2, wv _ _ (by omega), u _ _ (by omega)]; exact (z5' k hk).2
      -- late
      · rw [cls _ _ (by omega) (by omega)]; exact x6
      · rw [cls _ _ (by omega) (by omega)]; exact x7 j hj
      · rw [y7, wv _ _ (by omega)]; exact z7 hL
      · rw [y7, wv _ _ (by omega), (z8 hL).1]; rfl
      · rw [y8, wv _ _ (by omega)]; exact (z8 hL).2.1
      · rw [y9 j hj, wv _ _ (by omega)]; exact (z8 hL).2.2 j hj
      · have xs := (xb6 hL).2 (L.getD j 0) (by
          rw [List.getD_eq_getElem?_getD, List.getElem?_eq_getElem hj]
          exact List.getElem_mem hj)
        unfold xst at xs
        exact xs rfl
      · have b0 := xb1.1
        rw [cls _ _ (by omega) (by omega), (y4 k (by omega)).1, w2]
        exact xn k hk
      · rw [cls _ _ (by omega) (by omega), show y.1 138 4 = _ from (y3 1 (by omega)).1, wv _ _ (by omega), x1.2.1, z1.2.1]
      · have eq : (fun j => (D2 7 j).toNat) = ePD D := by
          funext j
          rw [u _ _ (by omega)]
        rw [eq, hD2]
        rfl
      -- how it stands
      · rw [S01]; omega
      · rw [S01]; omega
      · rw [S02]; omega
      · rw [S02, S01]; omega
      · rw [S1, S2]; omega
      · rw [S01, clR _ _ (by unfold xSd xSt7 xSt8; omega) (by omega) (by unfold xFn xFl xFm xg; omega), hhR, jhI_1, if_neg (by omega), jhI_1, if_neg (by omega)]; exact s3
      · rw [S02, clR _ _ (by unfold xSd xSt7 xSt8; omega) (by omega) (by unfold xFn xFl xFm xg; omega), hhR, jhI_1, if_neg (by omega), jhI_1, if_neg (by omega)]; exact s4
      · rw [S1, clR _ _ (by unfold xSd xSt7 xSt8; omega) (by omega) (by unfold xFn xFl xFm xg; omega), hhR, jhI_1, if_neg (by omega), jhI_1, if_neg (by omega)]; exact (s5 k hk).1
      · rw [S2, clR _ _ (by unfold xSd xSt7 xSt8; omega) (by omega) (by unfold xFn xFl xFm xg; omega), hhR, jhI_1, if_neg (by omega), jhI_1, if_neg (by omega)]; exact (s5 k hk).2
      · rw [S01, y10 0 (by omega), if_neg (by omega)]
      · rw [S02, y10 1 (by omega), if_pos rfl]
      · rw [S1, y10 (2 + 2 * k) (by omega), if_neg (by omega)]
      · rw [S2, y10 (2 + 2 * k + 1) (by omega), if_neg (by omega)]
      -- nothing can be undone
      · obtain ⟨g0, D0, S00, L0, -, -, ⟨cn, ww, p1, p2, p3, p4, p5, p6⟩⟩ := v7
        refine ⟨0, ww, by omega, p2, ?_, ?_, ?_, fun i hi => by omega⟩
        · rw [clR _ _ (by unfold xSd xSt7 xSt8; omega) (by omega) (by unfold xFn xFl xFm xg; omega), hhR, jhI_1, if_neg (by omega), jhI_1, if_pos ⟨rfl, rfl⟩]; rfl
        · rw [y12]; rfl
        · rw [e _ _ (by unfold jS0; omega) (by unfold xsp; omega) (by unfold xsp2 xSd xSt7 xSt8; omega)]; exact p5
