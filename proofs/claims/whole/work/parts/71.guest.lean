/-! a GUEST is told, on both sides -/
def eGu (D : jD) (g : Nat) (x1 x2 x3 x4 : Int) : jD := fun a k => if a = 3 ∧ k = g then x1 else if a = 4 ∧ k = g then x2 else if a = 5 ∧ k = g then 1 + x3 else if a = 6 ∧ k = g then x4 else D a k
section XE
variable {n : Nat} {T : Nat → Nat} {e : Int} {s s0 d g np nh : Nat} {D : jD} {L : List Int} {h hc hm h' : jH} {f pl : Int}
theorem eGu_0 {x1 x2 x3 x4 : Int} {a k : Nat} (h : a < 3 ∨ 6 < a ∨ k ≠ g) : eGu D g x1 x2 x3 x4 a k = D a k := by
  unfold eGu
  rw [if_neg (by omega), if_neg (by omega), if_neg (by omega), if_neg (by omega)]
theorem eGu_b {x1 x2 x3 x4 : Int} (b : bV g D) (ht : D 0 10 = 1) (hg : g < 8) (h1 : 0 ≤ x1 ∧ x1 ≤ 10) (h2 : 0 ≤ x2 ∧ x2 ≤ 99) (h3 : 0 ≤ x3 ∧ x3 ≤ 3) (h4 : 0 ≤ x4 ∧ x4 ≤ 99) : bV (g + 1) (eGu D g x1 x2 x3 x4) := by
  obtain ⟨b1, b2, b3, b4, b5⟩ := b
  refine ⟨by omega, ?_, ?_, fun k hk => ?_, fun k hk => ?_⟩
  · simp only [eGu_0 (show (0 : Nat) < 3 ∨ 6 < 0 ∨ _ ≠ g from Or.inl (by omega))]
    exact b2
  · simp only [eGu_0 (show (0 : Nat) < 3 ∨ 6 < 0 ∨ _ ≠ g from Or.inl (by omega))]
    exact ⟨b3.1, fun t => by omega⟩
  · by_cases q : k = g
    · subst q
      have e3 : eGu D k x1 x2 x3 x4 3 k = x1 := by unfold eGu; rw [if_pos ⟨rfl, rfl⟩]
      have e4 : eGu D k x1 x2 x3 x4 4 k = x2 := by unfold eGu; rw [if_neg (by omega), if_pos ⟨rfl, rfl⟩]
      have e5 : eGu D k x1 x2 x3 x4 5 k = 1 + x3 := by unfold eGu; rw [if_neg (by omega), if_neg (by omega), if_pos ⟨rfl, rfl⟩]
      have e6 : eGu D k x1 x2 x3 x4 6 k = x4 := by unfold eGu; rw [if_neg (by omega), if_neg (by omega), if_neg (by omega), if_pos ⟨rfl, rfl⟩]
      rw [e3, e4, e5, e6]
      omega
    · rw [eGu_0 (Or.inr (Or.inr q)), eGu_0 (Or.inr (Or.inr q)), eGu_0 (Or.inr (Or.inr q)), eGu_0 (Or.inr (Or.inr q))]
      exact b4 k (by omega)
  · rw [eGu_0 (Or.inr (Or.inl (by omega))), eGu_0 (Or.inr (Or.inl (by omega)))]
    have := b5 k hk
    have e : (2 : Int) ^ (g + 1) = 2 * (2 : Int) ^ g := by rw [Int.pow_succ, Int.mul_comm]
    rw [e]
    omega
theorem told42_eq {nl : Int64} {m1 m2 m3 m4 m5 m6 m7 m8 : jH} {y1 y2 y3 y4 : Int32} (a3 : fM_asks 118 hm = some m1) (a4 : fM_number 0 10 m1 = some (y1, m2)) (b3 : fM_asks 119 m2 = some m3) (b4 : fM_number 0 99 m3 = some (y2, m4)) (d3 : fM_asks 120 m4 = some m5) (d4 : fM_number 0 3 m5 = some (y3, m6)) (e3 : fM_asks 121 m6 = some m7) (e4 : fM_number 0 99 m7 = some (y4, m8)) : fM_guestTold_j42 nl hm = (if (m8.1 110 5) = 0 then
      (if jin (m8.1 138 0) 16 then (if jin (4 * (m8.1 138 0)) 64 then (if jin ((4 * (m8.1 138 0)) + 1) 64 then (if jin ((4 * (m8.1 138 0)) + 2) 64 then (if jin ((4 * (m8.1 138 0)) + 3) 64 then
        some (jhI (jhI (jhI (jhI (jhI (jhL m8 139 (m8.1 138 0).toNatClampNeg nl) 141 (4 * (m8.1 138 0)).toNatClampNeg y1) 141 ((4 * (m8.1 138 0)) + 1).toNatClampNeg y2) 141 ((4 * (m8.1 138 0)) + 2).toNatClampNeg (y3 + 1)) 141 ((4 * (m8.1 138 0)) + 3).toNatClampNeg y4) 138 0 ((m8.1 138 0) + 1))
        else none) else none) else none) else none) else none)
      else some m8) := by
  unfold fM_guestTold_j42
  rw [a3, Option.bind_some, show fM_number 0 10 m1 = _ from a4, Option.bind_some]
  dsimp only
  rw [b3, Option.bind_some, show fM_number 0 99 m3 = _ from b4, Option.bind_some]
  dsimp only
  rw [d3, Option.bind_some, show fM_number 0 3 m5 = _ from d4, Option.bind_some]
  dsimp only
  rw [e3, Option.bind_some, show fM_number 0 99 m7 = _ from e4, Option.bind_some]
  have z : (0 : Int32).toNatClampNeg = 0 := rfl
  have j6 : jin 0 6 := by decide
  simp (disch := omega) only [z, if_pos j6, jhI_1, jhL_1, if_neg]
theorem told85_eq (jg : jin (jz (g : Int)) 8) (ix : (jz (g : Int)).toNatClampNeg = g) (eg : jz (g : Int) + 1 = jz ((g + 1 : Nat) : Int)) {c1 c2 c3 c4 c5 c6 c7 c8 : jH} {z1 z2 z3 z4 : Int32} (a1 : fRd_wantsWord 1005 hc = some c1) (a2 : fRd_wantsNumber 10 c1 = some (z1, c2)) (b1 : fRd_wantsWord 1006 (jhI c2 (d + 2) g z1) = some c3) (b2 : fRd_wantsNumber 99 c3 = some (z2, c4)) (d1 : fRd_wantsWord 1007 (jhI c4 (d + 3) g z2) = some c5) (d2 : fRd_wantsNumber 3 c5 = some (z3, c6)) (e1 : fRd_wantsWord 1008 (jhI c6 (d + 4) g (1 + z3)) = some c7) (e2 : fRd_wantsNumber 99 c7 = some (z4, c8)) : fPr_readGuest_j85 d (jz g) hc = some (jhI (jhI c8 (d + 5) g z4) d 0 (jz ((g + 1 : Nat) : Int))) := by
  unfold fPr_readGuest_j85
  simp only [ix, if_pos jg, eg]
  rw [show fRd_wantsWord 1005 hc = _ from a1, Option.bind_some, show fRd_wantsNumber 10 c1 = _ from a2, Option.bind_some]
  dsimp only
  rw [show fRd_wantsWord 1006 (jhI c2 (d + 2) g z1) = _ from b1, Option.bind_some, show fRd_wantsNumber 99 c3 = _ from b2, Option.bind_some]
  dsimp only
  rw [show fRd_wantsWord 1007 (jhI c4 (d + 3) g z2) = _ from d1, Option.bind_some, show fRd_wantsNumber 3 c5 = _ from d2, Option.bind_some]
  dsimp only
  rw [show fRd_wantsWord 1008 (jhI c6 (d + 4) g (1 + z3)) = _ from e1, Option.bind_some, show fRd_wantsNumber 99 c7 = _ from e2, Option.bind_some]
/-- from the name on -/
theorem told_85 (hd : d = 84 ∨ d = 98) (X : xW d g np nh D L hc hm) (hg : g < 8) {nm : Int32} {nl : Int64} (cn : hc.1 (d + 1) g = nm) (B : xBo n T s0 hc hm) (hn : ¬ xbad hc → jNm nm nl) : xRs n T d s0 hc hm (fPr_readGuest_j85 d (jz g) hc) (fM_guestTold_j42 nl hm) := by
  obtain ⟨hdd, h8a, h8b⟩ := xdd_8 hd
  have hdd' := hdd
  unfold xdd at hdd'
  have jg : jin (jz (g : Int)) 8 := by rw [jin_z (by omega) (by omega)]; omega
  have ix : (jz (g : Int)).toNatClampNeg = g := by rw [jz_ix (by omega) (by omega), Int.toNat_natCast]
  obtain ⟨c1, c2, m1, m2, z1, y1, a1, a2, a3, a4, a5, a6, B1, v1⟩ := wn_x (M := 118) (i := 5) (m := 10) (xMw_o (i := 5) (by omega)) (by omega) B
  have fc1 : eFr (xFc d) hc (jhI c2 (d + 2) g z1) := xFc_I (xFc_6 a5) (by omega) _
  have B1' := xBo_c (hc' := jhI c2 (d + 2) g z1) B1 (fun o k hk => by rw [jhI_1, if_neg (by omega)])
  have nb1 := xbad_c (hc := c2) (hc' := jhI c2 (d + 2) g z1) (fun k => by rw [jhI_1, if_neg (by omega)])
  obtain ⟨c3, c4, m3, m4, z2, y2, b1, b2, b3, b4, b5, b6, B2, v2⟩ := wn_x (M := 119) (i := 6) (m := 99) (xMw_o (i := 6) (by omega)) (by omega) B1'
  have fc2 : eFr (xFc d) hc (jhI c4 (d + 3) g z2) := xFc_I (eFr_trans fc1 (xFc_6 b5)) (by omega) _
  have B2' := xBo_c (hc' := jhI c4 (d + 3) g z2) B2 (fun o k hk => by rw [jhI_1, if_neg (by omega)])
  have nb2 := xbad_c (hc := c4) (hc' := jhI c4 (d + 3) g z2) (fun k => by rw [jhI_1, if_neg (by omega)])
  obtain ⟨c5, c6, m5, m6, z3, y3, d1, d2, d3, d4, d5, d6, B3, v3⟩ := wn_x (M := 120) (i := 7) (m := 3) (xMw_o (i := 7) (by omega)) (by omega) B2'
  have fc3 : eFr (xFc d) hc (jhI c6 (d + 4) g (1 + z3)) := xFc_I (eFr_trans fc2 (xFc_6 d5)) (by omega) _
  have B3' := xBo_c (hc' := jhI c6 (d + 4) g (1 + z3)) B3 (fun o k hk => by rw [jhI_1, if_neg (by omega)])
  have nb3 := xbad_c (hc := c6) (hc' := jhI c6 (d + 4) g (1 + z3)) (fun k => by rw [jhI_1, if_neg (by omega)])
  obtain ⟨c7, c8, m7, m8, z4, y4, e1, e2, e3, e4, e5, e6, B4, v4⟩ := wn_x (M := 121) (i := 8) (m := 99) (xMw_o (i := 8) (by omega)) (by omega) B3'
  have eg : jz (g : Int) + 1 = jz ((g + 1 : Nat) : Int) := jk1 g
  have fc4 : eFr (xFc d) hc (jhI (jhI c8 (d + 5) g z4) d 0 (jz ((g + 1 : Nat) : Int))) := xFc_I (xFc_I (eFr_trans fc3 (xFc_6 e5)) (by omega) _) (by omega) _
  have cs := told85_eq jg ix eg a1 a2 b1 b2 d1 d2 e1 e2
  have fm : eFr xm hm m8 := eFr_trans a6 (eFr_trans b6 (eFr_trans d6 e6))
  have rs := told42_eq (nl := nl) a3 a4 b3 b4 d3 d4 e3 e4
  obtain ⟨x5a, x5b⟩ := xBo_5 B4
  have nb4 := xbad_c (hc := c8) (hc' := jhI (jhI c8 (d + 5) g z4) d 0 (jz ((g + 1 : Nat) : Int))) (fun k => by rw [jhI_1, if_neg (by omega), jhI_1, if_neg (by omega)])
  by_cases hbad : xbad c8
  · -- a fault
    have B4' := xBo_c (hc' := jhI (jhI c8 (d + 5) g z4) d 0 (jz ((g + 1 : Nat) : Int))) B4 (fun o k hk => by rw [jhI_1, if_neg (by omega), jhI_1, if_neg (by omega)])
    refine ⟨_, m8, cs, ?_, fc4, xFm_m fm, Or.inl ?_⟩
    · rw [rs, if_neg (x5a hbad)]
    · rcases B4' with ⟨f, pl, q1, q2⟩ | ⟨e', s', _, q1, _⟩
      · refine ⟨f, pl, q1, q2, ⟨g + 1, by omega, by rw [jhI_1, if_pos ⟨rfl, rfl⟩]⟩, fun k hk => ?_⟩
        obtain ⟨mm, k1, k2⟩ := (xW_k X).2 k hk
        refine ⟨mm, k1, ?_⟩
        rw [jhI_1, if_neg (by omega), jhI_1, if_neg (by omega), e5.1 _ _ (by unfold x6; omega), jhI_1, if_neg (by omega), d5.1 _ _ (by unfold x6; omega), jhI_1, if_neg (by omega), b5.1 _ _ (by unfold x6; omega), jhI_1, if_neg (by omega), a5.1 _ _ (by unfold x6; omega)]
        exact k2
      · obtain ⟨f, pl, q⟩ := nb4.mpr hbad
        exact (cR_cF q1 q).elim
  · -- all is told
    obtain ⟨w3, x4, k41, k42, rfl, rfl, k45⟩ := v4 hbad
    have w3' : ¬ xbad c6 := fun t => w3 (nb3.mpr t)
    obtain ⟨w2, x3, k31, k32, rfl, rfl, -⟩ := v3 w3'
    have w2' : ¬ xbad c4 := fun t => w2 (nb2.mpr t)
    obtain ⟨w1, x2, k21, k22, rfl, rfl, -⟩ := v2 w2'
    have w1' : ¬ xbad c2 := fun t => w1 (nb1.mpr t)
    obtain ⟨w0, x1, k11, k12, rfl, rfl, -⟩ := v1 w1'
    have nm' := hn w0
    have B4' := xBo_c (hc' := jhI (jhI c8 (d + 5) g (jz x4)) d 0 (jz ((g + 1 : Nat) : Int))) B4 (fun o k hk => by rw [jhI_1, if_neg (by omega), jhI_1, if_neg (by omega)])
    rcases B4' with ⟨f, pl, q1, q2⟩ | ⟨e', s', hs', q1, q2⟩
    · exact absurd (nb4.mp ⟨f, pl, q1⟩) hbad
    have s0s : s0 < s' := k45 e' s' (cR_fr q1 (fun o k hk => by rw [jhI_1, if_neg (by omega), jhI_1, if_neg (by omega)]))
    have m0 : m8.1 138 0 = jz g := by rw [fm.1 _ _ (by unfold xm; omega)]; exact X.2.2.1.1.1
    have e13 : (1 : Int32) + jz x3 = jz (1 + x3) := by rw [show (1 : Int32) = jz 1 from rfl, jz_add]
    have e31 : jz x3 + (1 : Int32) = jz (1 + x3) := by rw [show (1 : Int32) = jz 1 from rfl, jz_add, Int.add_comm]
    have r4 : (4 : Int32) * jz (g : Int) = jz ((4 * g : Nat) : Int) := by rw [show (4 : Int32) = jz 4 from rfl, jz_mul]; rfl
    have r41 : jz ((4 * g : Nat) : Int) + 1 = jz ((4 * g + 1 : Nat) : Int) := by rw [show (1 : Int32) = jz 1 from rfl, jz_add]; rfl
    have r42 : jz ((4 * g : Nat) : Int) + 2 = jz ((4 * g + 2 : Nat) : Int) := by rw [show (2 : Int32) = jz 2 from rfl, jz_add]; rfl
    have r43 : jz ((4 * g : Nat) : Int) + 3 = jz ((4 * g + 3 : Nat) : Int) := by rw [show (3 : Int32) = jz 3 from rfl, jz_add]; rfl
    have ixn : ∀ j : Nat, j < 64 → (jz (j : Int)).toNatClampNeg = j := fun j hj => by rw [jz_ix (by omega) (by omega), Int.toNat_natCast]
    obtain ⟨M, hM⟩ : ∃ M, M = jhI (jhI (jhI (jhI (jhI (jhL m8 139 g nl) 141 (4 * g) (jz x1)) 141 (4 * g + 1) (jz x2)) 141 (4 * g + 2) (jz (1 + x3))) 141 (4 * g + 3) (jz x4)) 138 0 (jz ((g + 1 : Nat) : Int)) := ⟨_, rfl⟩
    have rM : fM_guestTold_j42 nl hm = some M := by
      rw [rs, if_pos (x5b hbad), m0, r4, r41, r42, r43, if_pos (by rw [jin_z (by omega) (by omega)]; omega), if_pos (by rw [jin_z (by omega) (by omega)]; omega), if_pos (by rw [jin_z (by omega) (by omega)]; omega), if_pos (by rw [jin_z (by omega) (by omega)]; omega), if_pos (by rw [jin_z (by omega) (by omega)]; omega), ix, ixn _ (by omega), ixn _ (by omega), ixn _ (by omega), ixn _ (by omega), eg, e31, hM]
    have M1 : ∀ o k, M.1 o k = if o = 138 ∧ k = 0 then jz ((g + 1 : Nat) : Int) else if o = 141 ∧ k = 4 * g + 3 then jz x4 else if o = 141 ∧ k = 4 * g + 2 then jz (1 + x3) else if o = 141 ∧ k = 4 * g + 1 then jz x2 else if o = 141 ∧ k = 4 * g then jz x1 else m8.1 o k := fun o k => by rw [hM]; rfl
    have M2 : ∀ k, M.2 139 k = if k = g then nl else m8.2 139 k := fun k => by
      rw [hM]
      show (if 139 = 139 ∧ k = g then nl else m8.2 139 k) = _
      by_cases q : k = g
      · rw [if_pos ⟨rfl, q⟩, if_pos q]
      · rw [if_neg (fun t => q t.2), if_neg q]
    have fM : eFr xFm hm M := by
      rw [hM]
      exact eFr_I (S := xFm) (eFr_I (S := xFm) (eFr_I (S := xFm) (eFr_I (S := xFm) (eFr_I (S := xFm) (eFr_L (S := xFm) (xFm_m fm) (by unfold xFm; omega) _) (by unfold xFm; omega) _) (by unfold xFm; omega) _) (by unfold xFm; omega) _) (by unfold xFm; omega) _) (by unfold xFm; omega) _
    have mk : ∀ o k, ¬ (o = 138 ∧ k = 0) → o ≠ 141 → (o = 138 ∨ o = 140 ∨ o = 142 ∨ o = 143 ∨ o = 144 ∨ o = 145 ∨ o = 146 ∨ o = 147 ∨ (o = 110 ∧ k = 46)) → M.1 o k = hm.1 o k := by
      intro o k n1 n2 hk
      rw [M1, if_neg n1, if_neg (fun t => n2 t.1), if_neg (fun t => n2 t.1), if_neg (fun t => n2 t.1), if_neg (fun t => n2 t.1)]
      exact fm.1 _ _ (by unfold xm; omega)
    -- the class's cells
    have ck : ∀ o k, d ≤ o → o ≤ d + 11 → ¬ (o = d ∧ k = 0) → ¬ (o = d + 2 ∧ k = g) → ¬ (o = d + 3 ∧ k = g) → ¬ (o = d + 4 ∧ k = g) → ¬ (o = d + 5 ∧ k = g) → (jhI (jhI c8 (d + 5) g (jz x4)) d 0 (jz ((g + 1 : Nat) : Int))).1 o k = hc.1 o k := by
      intro o k h1 h2 n0 n2 n3 n4 n5
      rw [jhI_1, if_neg n0, jhI_1, if_neg n5, e5.1 _ _ (by unfold x6; omega), jhI_1, if_neg n4, d5.1 _ _ (by unfold x6; omega), jhI_1, if_neg n3, b5.1 _ _ (by unfold x6; omega), jhI_1, if_neg n2, a5.1 _ _ (by unfold x6; omega)]
    refine ⟨_, M, cs, rM, fc4, fM, Or.inr ⟨e', s', g + 1, np, nh, eGu D g x1 x2 x3 x4, L, q1, mR_fr q2 (fun o k hk => by rw [M1, if_neg (by omega), if_neg (by omega), if_neg (by omega), if_neg (by omega), if_neg (by omega)]), ⟨?_, ?_, ?_, ?_⟩, s0s⟩⟩
    · exact ⟨eGu_b X.1.1 X.1.2.1 hg (by omega) (by omega) (by omega) (by omega), by rw [eGu_0 (Or.inl (by omega))]; exact X.1.2.1, X.1.2.2⟩
    · have x := X.2.1
      unfold xDc at x ⊢
      simp only [eGu_0 (show (0 : Nat) < 3 ∨ 6 < 0 ∨ _ ≠ g from Or.inl (by omega)), eGu_0 (show (7 : Nat) < 3 ∨ 6 < 7 ∨ _ ≠ g from Or.inr (Or.inl (by omega))), eGu_0 (show (8 : Nat) < 3 ∨ 6 < 8 ∨ _ ≠ g from Or.inr (Or.inl (by omega)))]
      refine ⟨⟨by rw [jhI_1, if_pos ⟨rfl, rfl⟩], ?_, ?_⟩, ?_, ?_, fun k hk => ?_, fun k hk => ?_, ?_, fun j hj => ?_⟩
      · rw [ck _ _ (by omega) (by omega) (by omega) (by omega) (by omega) (by omega) (by omega)]; exact x.1.2.1
      · rw [ck _ _ (by omega) (by omega) (by omega) (by omega) (by omega) (by omega) (by omega)]; exact x.1.2.2
      · rw [ck _ _ (by omega) (by omega) (by omega) (by omega) (by omega) (by omega) (by omega), ck _ _ (by omega) (by omega) (by omega) (by omega) (by omega) (by omega) (by omega), ck _ _ (by omega) (by omega) (by omega) (by omega) (by omega) (by omega) (by omega), ck _ _ (by omega) (by omega) (by omega) (by omega) (by omega) (by omega) (by omega)]
        exact x.2.1
      · rw [ck _ _ (by omega) (by omega) (by omega) (by omega) (by omega) (by omega) (by omega), ck _ _ (by omega) (by omega) (by omega) (by omega) (by omega) (by omega) (by omega), ck _ _ (by omega) (by omega) (by omega) (by omega) (by omega) (by omega) (by omega)]
        exact x.2.2.1
      · by_cases q : k = g
        · subst q
          refine ⟨?_, ?_, ?_, ?_⟩
          · rw [jhI_1, if_neg (by omega), jhI_1, if_neg (by omega), e5.1 _ _ (by unfold x6; omega), jhI_1, if_neg (by omega), d5.1 _ _ (by unfold x6; omega), jhI_1, if_neg (by omega), b5.1 _ _ (by unfold x6; omega), jhI_1, if_pos ⟨rfl, rfl⟩]
            unfold eGu; rw [if_pos ⟨rfl, rfl⟩]
          · rw [jhI_1, if_neg (by omega), jhI_1, if_neg (by omega), e5.1 _ _ (by unfold x6; omega), jhI_1, if_neg (by omega), d5.1 _ _ (by unfold x6; omega), jhI_1, if_pos ⟨rfl, rfl⟩]
            unfold eGu; rw [if_neg (by omega), if_pos ⟨rfl, rfl⟩]
          · rw [jhI_1, if_neg (by omega), jhI_1, if_neg (by omega), e5.1 _ _ (by unfold x6; omega), jhI_1, if_pos ⟨rfl, rfl⟩, e13]
            unfold eGu; rw [if_neg (by omega), if_neg (by omega), if_pos ⟨rfl, rfl⟩]
          · rw [jhI_1, if_neg (by omega), jhI_1, if_pos ⟨rfl, rfl⟩]
            unfold eGu; rw [if_neg (by omega), if_neg (by omega), if_neg (by omega), if_pos ⟨rfl, rfl⟩]
        · rw [eGu_0 (Or.inr (Or.inr q)), eGu_0 (Or.inr (Or.inr q)), eGu_0 (Or.inr (Or.inr q)), eGu_0 (Or.inr (Or.inr q)), ck _ _ (by omega) (by omega) (by omega) (by omega) (by omega) (by omega) (by omega), ck _ _ (by omega) (by omega) (by omega) (by omega) (by omega) (by omega) (by omega), ck _ _ (by omega) (by omega) (by omega) (by omega) (by omega) (by omega) (by omega), ck _ _ (by omega) (by omega) (by omega) (by omega) (by omega) (by omega) (by omega)]
          exact x.2.2.2.1 k (by omega)
      · rw [ck _ _ (by omega) (by omega) (by omega) (by omega) (by omega) (by omega) (by omega), ck _ _ (by omega) (by omega) (by omega) (by omega) (by omega) (by omega) (by omega)]
        exact x.2.2.2.2.1 k hk
      · rw [ck _ _ (by omega) (by omega) (by omega) (by omega) (by omega) (by omega) (by omega)]; exact x.2.2.2.2.2.1
      · rw [ck _ _ (by omega) (by omega) (by omega) (by omega) (by omega) (by omega) (by omega)]; exact x.2.2.2.2.2.2 j hj
    · have x := X.2.2.1
      unfold xDm at x ⊢
      simp only [eGu_0 (show (0 : Nat) < 3 ∨ 6 < 0 ∨ _ ≠ g from Or.inl (by omega)), eGu_0 (show (7 : Nat) < 3 ∨ 6 < 7 ∨ _ ≠ g from Or.inr (Or.inl (by omega))), eGu_0 (show (8 : Nat) < 3 ∨ 6 < 8 ∨ _ ≠ g from Or.inr (Or.inl (by omega)))]
      refine ⟨⟨?_, ?_, ?_⟩, ?_, ?_, fun k hk => ?_, fun k hk => ?_, ?_, ?_, ?_⟩
      · rw [M1, if_pos ⟨rfl, rfl⟩]
      · rw [mk _ _ (by omega) (by omega) (by omega)]; exact x.1.2.1
      · rw [mk _ _ (by omega) (by omega) (by omega)]; exact x.1.2.2
      · rw [mk _ _ (by omega) (by omega) (by omega), mk _ _ (by omega) (by omega) (by omega), mk _ _ (by omega) (by omega) (by omega), mk _ _ (by omega) (by omega) (by omega)]; exact x.2.1
      · rw [mk _ _ (by omega) (by omega) (by omega), mk _ _ (by omega) (by omega) (by omega), mk _ _ (by omega) (by omega) (by omega)]; exact x.2.2.1
      · have m41 : ∀ j : Nat, j < 4 * g → M.1 141 j = hm.1 141 j := fun j hj => by
          rw [M1, if_neg (by omega), if_neg (by omega), if_neg (by omega), if_neg (by omega), if_neg (by omega)]
          exact fm.1 _ _ (by unfold xm; omega)
        by_cases q : k = g
        · subst q
          refine ⟨?_, ?_, ?_, ?_⟩
          · rw [M1, if_neg (by omega), if_neg (by omega), if_neg (by omega), if_neg (by omega), if_pos ⟨rfl, rfl⟩]
            unfold eGu; rw [if_pos ⟨rfl, rfl⟩]
          · rw [M1, if_neg (by omega), if_neg (by omega), if_neg (by omega), if_pos ⟨rfl, rfl⟩]
            unfold eGu; rw [if_neg (by omega), if_pos ⟨rfl, rfl⟩]
          · rw [M1, if_neg (by omega), if_neg (by omega), if_pos ⟨rfl, rfl⟩]
            unfold eGu; rw [if_neg (by omega), if_neg (by omega), if_pos ⟨rfl, rfl⟩]
          · rw [M1, if_neg (by omega), if_pos ⟨rfl, rfl⟩]
            unfold eGu; rw [if_neg (by omega), if_neg (by omega), if_neg (by omega), if_pos ⟨rfl, rfl⟩]
        · rw [eGu_0 (Or.inr (Or.inr q)), eGu_0 (Or.inr (Or.inr q)), eGu_0 (Or.inr (Or.inr q)), eGu_0 (Or.inr (Or.inr q)), m41 _ (by omega), m41 _ (by omega), m41 _ (by omega), m41 _ (by omega)]
          exact x.2.2.2.1 k (by omega)
      · rw [mk _ _ (by omega) (by omega) (by omega), mk _ _ (by omega) (by omega) (by omega)]; exact x.2.2.2.2.1 k hk
      · rw [mk _ _ (by omega) (by omega) (by omega)]; exact x.2.2.2.2.2.1
      · rw [mk _ _ (by omega) (by omega) (by omega)]; exact x.2.2.2.2.2.2.1
      · intro hL
        obtain ⟨l1, l2, l3⟩ := x.2.2.2.2.2.2.2 hL
        exact ⟨by rw [mk _ _ (by omega) (by omega) (by omega)]; exact l1, by rw [mk _ _ (by omega) (by omega) (by omega)]; exact l2, fun j hj => by rw [mk _ _ (by omega) (by omega) (by omega)]; exact l3 j hj⟩
    · intro k hk
      rw [M2, ck _ _ (by omega) (by omega) (by omega) (by omega) (by omega) (by omega) (by omega)]
      by_cases q : k = g
      · rw [if_pos q, q, cn]; exact nm'
      · rw [if_neg q, fm.2 _ _ (by unfold xm; omega)]; exact X.2.2.2 k (by omega)
end XE
