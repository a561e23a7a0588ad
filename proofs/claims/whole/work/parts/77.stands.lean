/-! THE WEDDING stands, the reference -/
def xSt7 (o k : Nat) : Prop := (o = 138 ∨ o = 144) ∧ 3 ≤ k ∧ k < 6
def xSt8 (o k : Nat) : Prop := (o = 139 ∨ o = 142 ∨ o = 143) ∧ 8 ≤ k ∧ k < 16
def xSd (o k : Nat) : Prop := (o = 110 ∧ (k = 48 ∨ k = 56)) ∨ xSt7 o k ∨ xSt8 o k ∨ (o = 140 ∧ 4 ≤ k ∧ k < 8) ∨ (o = 141 ∧ 32 ≤ k ∧ k < 64) ∨ (o = 145 ∧ k = 1) ∨ (o = 146 ∧ k = 1) ∨ (o = 147 ∧ 1600 ≤ k) ∨ (o = 148 ∧ k < 18)
section XSD
variable {h : jH}
theorem xSd_1 {k : Nat} (h : k = 48 ∨ k = 56) : xSd 110 k := Or.inl ⟨rfl, h⟩
theorem xSd_7 {o k : Nat} (h : xSt7 o k) : xSd o k := Or.inr (Or.inl h)
theorem xSd_8 {o k : Nat} (h : xSt8 o k) : xSd o k := Or.inr (Or.inr (Or.inl h))
theorem xSd_140 {o k : Nat} (h : o = 140 ∧ 4 ≤ k ∧ k < 4 + 4) : xSd o k := Or.inr (Or.inr (Or.inr (Or.inl ⟨h.1, h.2.1, by omega⟩)))
theorem xSd_141 {o k : Nat} (h : o = 141 ∧ 32 ≤ k ∧ k < 32 + 32) : xSd o k := Or.inr (Or.inr (Or.inr (Or.inr (Or.inl ⟨h.1, h.2.1, by omega⟩))))
theorem xSd_145 : xSd 145 1 := Or.inr (Or.inr (Or.inr (Or.inr (Or.inr (Or.inl ⟨rfl, rfl⟩)))))
theorem xSd_146 : xSd 146 1 := Or.inr (Or.inr (Or.inr (Or.inr (Or.inr (Or.inr (Or.inl ⟨rfl, rfl⟩))))))
theorem xSd_147 {o k : Nat} (h : o = 147 ∧ 1600 ≤ k) : xSd o k := Or.inr (Or.inr (Or.inr (Or.inr (Or.inr (Or.inr (Or.inr (Or.inl h)))))))
theorem xSd_148 {o k : Nat} (h : o = 148 ∧ k < 18) : xSd o k := Or.inr (Or.inr (Or.inr (Or.inr (Or.inr (Or.inr (Or.inr (Or.inr h)))))))
theorem st7 : ∃ h', jlim fM_stands_l7 (jz 0, h) = some h' ∧ eFr xSt7 h h' ∧ ∀ k, k < 3 → h'.1 138 (3 + k) = h.1 138 k ∧ h'.1 144 (3 + k) = h.1 144 k := by
  have hl := jlim_cnt (step := fM_stands_l7) (fun k (x : jH) => (jz k, x)) (fun k x => eFr xSt7 h x ∧ ∀ j, j < k → x.1 138 (3 + j) = h.1 138 j ∧ x.1 144 (3 + j) = h.1 144 j) (fun x => eFr xSt7 h x ∧ ∀ j, j < 3 → x.1 138 (3 + j) = h.1 138 j ∧ x.1 144 (3 + j) = h.1 144 j) 3 3 0 (by omega) h ⟨eFr_refl _ _, fun j hj => by omega⟩ ?_ ?_
  · exact hl
  · rintro k x _ hk ⟨q1, q2⟩
    have ix : (jz (k : Int)).toNatClampNeg = k := by rw [jz_ix (by omega) (by omega), Int.toNat_natCast]
    have e3 : (3 : Int32) + jz (k : Int) = jz ((3 + k : Nat) : Int) := by rw [show (3 : Int32) = jz 3 from rfl, jz_add]; rfl
    have ix3 : (jz ((3 + k : Nat) : Int)).toNatClampNeg = 3 + k := by rw [jz_ix (by omega) (by omega), Int.toNat_natCast]
    have jk : jin (jz (k : Int)) 6 := by rw [jin_z (by omega) (by omega)]; omega
    have jk3 : jin (jz ((3 + k : Nat) : Int)) 6 := by rw [jin_z (by omega) (by omega)]; omega
    have v1 : x.1 138 k = h.1 138 k := q1.1 _ _ (by unfold xSt7; omega)
    have v2 : x.1 144 k = h.1 144 k := q1.1 _ _ (by unfold xSt7; omega)
    refine ⟨jhI (jhI x 138 (3 + k) (h.1 138 k)) 144 (3 + k) (h.1 144 k), ?_, eFr_I (S := xSt7) (eFr_I (S := xSt7) q1 (by unfold xSt7; omega) _) (by unfold xSt7; omega) _, fun j hj => ?_⟩
    · show fM_stands_l7_b (jz k) x = _
      unfold fM_stands_l7_b
      rw [if_pos (by rw [show (3 : Int32) = jz 3 from rfl, jz_lt (by omega) (by omega) (by omega) (by omega)]; omega), e3, if_pos jk, if_pos jk3, if_pos jk, if_pos jk3]
      simp only [ix, ix3, v1, jk1]
      rw [jhI_1, if_neg (by omega), v2]
    · by_cases z : j = k
      · subst z
        simp (disch := omega) only [jhI_1, if_neg, if_pos, and_self, if_true]
      · simp (disch := omega) only [jhI_1, if_neg]
        exact q2 j (by omega)
  · rintro x ⟨q1, q2⟩
    refine ⟨x, ?_, q1, q2⟩
    show fM_stands_l7_b (jz 3) x = _
    unfold fM_stands_l7_b
    rw [if_neg (by decide)]
theorem st48 : ∃ h', jlim fM_stands_l48 (jz 0, h) = some h' ∧ eFr xSt8 h h' ∧ ∀ k, k < 8 → h'.2 139 (8 + k) = h.2 139 k ∧ h'.1 142 (8 + k) = h.1 142 k ∧ h'.1 143 (8 + k) = h.1 143 k := by
  have hl := jlim_cnt (step := fM_stands_l48) (fun k (x : jH) => (jz k, x)) (fun k x => eFr xSt8 h x ∧ ∀ j, j < k → x.2 139 (8 + j) = h.2 139 j ∧ x.1 142 (8 + j) = h.1 142 j ∧ x.1 143 (8 + j) = h.1 143 j) (fun x => eFr xSt8 h x ∧ ∀ j, j < 8 → x.2 139 (8 + j) = h.2 139 j ∧ x.1 142 (8 + j) = h.1 142 j ∧ x.1 143 (8 + j) = h.1 143 j) 8 8 0 (by omega) h ⟨eFr_refl _ _, fun j hj => by omega⟩ ?_ ?_
  · exact hl
  · rintro k x _ hk ⟨q1, q2⟩
    have ix : (jz (k : Int)).toNatClampNeg = k := by rw [jz_ix (by omega) (by omega), Int.toNat_natCast]
    have e3 : (8 : Int32) + jz (k : Int) = jz ((8 + k : Nat) : Int) := by rw [show (8 : Int32) = jz 8 from rfl, jz_add]; rfl
    have ix3 : (jz ((8 + k : Nat) : Int)).toNatClampNeg = 8 + k := by rw [jz_ix (by omega) (by omega), Int.toNat_natCast]
    have jk : jin (jz (k : Int)) 16 := by rw [jin_z (by omega) (by omega)]; omega
    have jk3 : jin (jz ((8 + k : Nat) : Int)) 16 := by rw [jin_z (by omega) (by omega)]; omega
    have v0 : x.2 139 k = h.2 139 k := q1.2 _ _ (by unfold xSt8; omega)
    have v1 : x.1 142 k = h.1 142 k := q1.1 _ _ (by unfold xSt8; omega)
    have v2 : x.1 143 k = h.1 143 k := q1.1 _ _ (by unfold xSt8; omega)
    refine ⟨jhI (jhI (jhL x 139 (8 + k) (h.2 139 k)) 142 (8 + k) (h.1 142 k)) 143 (8 + k) (h.1 143 k), ?_, eFr_I (S := xSt8) (eFr_I (S := xSt8) (eFr_L (S := xSt8) q1 (by unfold xSt8; omega) _) (by unfold xSt8; omega) _) (by unfold xSt8; omega) _, fun j hj => ?_⟩
    · show fM_stands_l48_b (jz k) x = _
      unfold fM_stands_l48_b
      rw [if_pos (by rw [show (8 : Int32) = jz 8 from rfl, jz_lt (by omega) (by omega) (by omega) (by omega)]; omega), e3, if_pos jk, if_pos jk3, if_pos jk, if_pos jk3, if_pos jk, if_pos jk3]
      simp only [ix, ix3, v0, jk1, jhL_1, v1]
      rw [jhI_1, if_neg (by omega), jhL_1, v2]
    · by_cases z : j = k
      · subst z
        simp (disch := omega) only [jhI_1, jhI_2, jhL_1, jhL_2, if_neg, if_pos, and_self, if_true]
      · simp (disch := omega) only [jhI_1, jhI_2, jhL_1, jhL_2, if_neg]
        exact q2 j (by omega)
  · rintro x ⟨q1, q2⟩
    refine ⟨x, ?_, q1, q2⟩
    show fM_stands_l48_b (jz 8) x = _
    unfold fM_stands_l48_b
    rw [if_neg (by decide)]
theorem copyI {step : Int32 × jH → Option ((Int32 × jH) ⊕ jH)} (o b N : Nat) (hb : N ≤ b) (hs : ∀ (k : Nat) (x : jH), k < N → x.1 o k = h.1 o k → eFr (fun o' k => o' = o ∧ b ≤ k ∧ k < b + N) h x → step (jz k, x) = some (.inl (jz ((k + 1 : Nat) : Int), jhI x o (b + k) (h.1 o k)))) (he : ∀ x : jH, eFr (fun o' k => o' = o ∧ b ≤ k ∧ k < b + N) h x → step (jz N, x) = some (.inr x)) : ∃ h', jlim step (jz 0, h) = some h' ∧ eFr (fun o' k => o' = o ∧ b ≤ k ∧ k < b + N) h h' ∧ ∀ k, k < N → h'.1 o (b + k) = h.1 o k := by
  have hl := jlim_cnt (step := step) (fun k (x : jH) => (jz k, x)) (fun k x => eFr (fun o' k => o' = o ∧ b ≤ k ∧ k < b + N) h x ∧ ∀ j, j < k → x.1 o (b + j) = h.1 o j) (fun x => eFr (fun o' k => o' = o ∧ b ≤ k ∧ k < b + N) h x ∧ ∀ j, j < N → x.1 o (b + j) = h.1 o j) N N 0 (by omega) h ⟨eFr_refl _ _, fun j hj => by omega⟩ ?_ ?_
  · exact hl
  · rintro k x _ hk ⟨q1, q2⟩
    refine ⟨_, hs k x hk (q1.1 _ _ (by omega)) q1, eFr_I (S := fun o' k => o' = o ∧ b ≤ k ∧ k < b + N) q1 (by omega) _, fun j hj => ?_⟩
    rw [jhI_1]
    by_cases z : j = k
    · subst z
      rw [if_pos ⟨rfl, rfl⟩]
    · rw [if_neg (by omega)]
      exact q2 j (by omega)
  · rintro x ⟨q1, q2⟩
    exact ⟨x, he x q1, q1, q2⟩
theorem stands_ok {m : Nat} (h46 : h.1 110 46 = jz m) (hm : m ≤ 1600) : ∃ h', fM_stands h = some h' ∧ eFr xSd h h' ∧ (∀ k, k < 3 → h'.1 138 (3 + k) = h.1 138 k ∧ h'.1 144 (3 + k) = h.1 144 k) ∧ (∀ k, k < 8 → h'.2 139 (8 + k) = h.2 139 k ∧ h'.1 142 (8 + k) = h.1 142 k ∧ h'.1 143 (8 + k) = h.1 143 k) ∧ (∀ k, k < 4 → h'.1 140 (4 + k) = h.1 140 k) ∧ (∀ k, k < 32 → h'.1 141 (32 + k) = h.1 141 k) ∧ h'.1 145 1 = h.1 145 0 ∧ h'.1 146 1 = h.1 146 0 ∧ (∀ k, k < m → h'.1 147 (1600 + k) = h.1 147 k) ∧ (∀ k, k < 18 → h'.1 148 k = if k = 1 then jz (-1) else jz 0) ∧ h'.1 110 48 = jz 1 ∧ h'.1 110 56 = jz 0 := by
  obtain ⟨y0, hy0⟩ : ∃ y, y = jhI h 110 48 (jz 1) := ⟨_, rfl⟩
  have f0 : eFr (fun o k => o = 110 ∧ k = 48) h y0 := by rw [hy0]; exact eFr_I (S := fun o k => o = 110 ∧ k = 48) (eFr_refl _ _) ⟨rfl, rfl⟩ _
  obtain ⟨y1, a1, a2, a3⟩ := st7 (h := y0)
  obtain ⟨y2, b1, b2, b3⟩ := st48 (h := y1)
  obtain ⟨y3, c1, c2, c3⟩ := copyI (h := y2) (step := fM_stands_l107) 140 4 4 (by omega) (fun k x hk hx _ => by
    have ix : (jz (k : Int)).toNatClampNeg = k := by rw [jz_ix (by omega) (by omega), Int.toNat_natCast]
    have e3 : (4 : Int32) + jz (k : Int) = jz ((4 + k : Nat) : Int) := by rw [show (4 : Int32) = jz 4 from rfl, jz_add]; rfl
    have ix3 : (jz ((4 + k : Nat) : Int)).toNatClampNeg = 4 + k := by rw [jz_ix (by omega) (by omega), Int.toNat_natCast]
    show fM_stands_l107_b (jz k) x = _
    unfold fM_stands_l107_b
    rw [if_pos (by rw [show (4 : Int32) = jz 4 from rfl, jz_lt (by omega) (by omega) (by omega) (by omega)]; omega), e3, if_pos (by rw [jin_z (by omega) (by omega)]; omega), if_pos (by rw [jin_z (by omega) (by omega)]; omega), ix, ix3, hx, jk1]) (fun x _ => by
    show fM_stands_l107_b (jz 4) x = _
    unfold fM_stands_l107_b
    rw [if_neg (by decide)])
  obtain ⟨y4, d1, d2, d3⟩ := copyI (h := y3) (step := fM_stands_l134) 141 32 32 (by omega) (fun k x hk hx _ => by
    have ix : (jz (k : Int)).toNatClampNeg = k := by rw [jz_ix (by omega) (by omega), Int.toNat_natCast]
    have e3 : (32 : Int32) + jz (k : Int) = jz ((32 + k : Nat) : Int) := by rw [show (32 : Int32) = jz 32 from rfl, jz_add]; rfl
    have ix3 : (jz ((32 + k : Nat) : Int)).toNatClampNeg = 32 + k := by rw [jz_ix (by omega) (by omega), Int.toNat_natCast]
    show fM_stands_l134_b (jz k) x = _
    unfold fM_stands_l134_b
    rw [if_pos (by rw [show (32 : Int32) = jz 32 from rfl, jz_lt (by omega) (by omega) (by omega) (by omega)]; omega), e3, if_pos (by rw [jin_z (by omega) (by omega)]; omega), if_pos (by rw [jin_z (by omega) (by omega)]; omega), ix, ix3, hx, jk1]) (fun x _ => by
    show fM_stands_l134_b (jz 32) x = _
    unfold fM_stands_l134_b
    rw [if_neg (by decide)])
  have k4 : ∀ o k, ¬ xSt7 o k → ¬ xSt8 o k → ¬ (o = 140 ∧ 4 ≤ k ∧ k < 4 + 4) → ¬ (o = 141 ∧ 32 ≤ k ∧ k < 32 + 32) → ¬ (o = 110 ∧ k = 48) → y4.1 o k = h.1 o k := fun o k n1 n2 n3 n4 n5 => by rw [d2.1 _ _ n4, c2.1 _ _ n3, b2.1 _ _ n2, a2.1 _ _ n1, f0.1 _ _ n5]
  obtain ⟨y5, hy5⟩ : ∃ y, y = jhI (jhI y4 145 1 (h.1 145 0)) 146 1 (h.1 146 0) := ⟨_, rfl⟩
  have k5 : ∀ o k, ¬ (o = 145 ∧ k = 1) → ¬ (o = 146 ∧ k = 1) → y5.1 o k = y4.1 o k := fun o k n1 n2 => by rw [hy5, jhI_1, if_neg n2, jhI_1, if_neg n1]
  have y46 : y5.1 110 46 = jz m := by rw [k5 _ _ (by omega) (by omega), k4 _ _ (by unfold xSt7; omega) (by unfold xSt8; omega) (by omega) (by omega) (by omega)]; exact h46
  obtain ⟨y6, e1, e2, e3⟩ := copyI (h := y5) (step := fM_stands_l187) 147 1600 m hm (fun k x hk hx fx => by
    have ix : (jz (k : Int)).toNatClampNeg = k := by rw [jz_ix (by omega) (by omega), Int.toNat_natCast]
    have e3 : (1600 : Int32) + jz (k : Int) = jz ((1600 + k : Nat) : Int) := by rw [show (1600 : Int32) = jz 1600 from rfl, jz_add]; rfl
    have ix3 : (jz ((1600 + k : Nat) : Int)).toNatClampNeg = 1600 + k := by rw [jz_ix (by omega) (by omega), Int.toNat_natCast]
    have x46 : x.1 110 46 = jz m := by rw [fx.1 _ _ (by omega)]; exact y46
    show fM_stands_l187_b (jz k) x = _
    unfold fM_stands_l187_b
    rw [x46, if_pos (by rw [jz_lt (by omega) (by omega) (by omega) (by omega)]; omega), e3, if_pos (by rw [jin_z (by omega) (by omega)]; omega), if_pos (by rw [jin_z (by omega) (by omega)]; omega), ix, ix3, hx, jk1]) (fun x fx => by
    have x46 : x.1 110 46 = jz m := by rw [fx.1 _ _ (by omega)]; exact y46
    show fM_stands_l187_b (jz m) x = _
    unfold fM_stands_l187_b
    rw [x46, if_neg (by rw [jz_lt (by omega) (by omega) (by omega) (by omega)]; omega)])
  have hl := jlim_cnt (step := fM_stands_l219) (fun k (x : jH) => (jz k, x)) (fun k x => eFr (fun o k => o = 148 ∧ k < 18) y6 x ∧ ∀ j, j < k → x.1 148 j = jz 0) (fun x => eFr (fun o k => o = 148 ∧ k < 18) y6 x ∧ ∀ j, j < 18 → x.1 148 j = jz 0) 18 18 0 (by omega) y6 ⟨eFr_refl _ _, fun j hj => by omega⟩ (by
    rintro k x _ hk ⟨q1, q2⟩
    have ix : (jz (k : Int)).toNatClampNeg = k := by rw [jz_ix (by omega) (by omega), Int.toNat_natCast]
    refine ⟨jhI x 148 k (jz 0), ?_, eFr_I (S := fun o k => o = 148 ∧ k < 18) q1 ⟨rfl, hk⟩ _, fun j hj => ?_⟩
    · show fM_stands_l219_b (jz k) x = _
      unfold fM_stands_l219_b
      rw [if_pos (by rw [show (18 : Int32) = jz 18 from rfl, jz_lt (by omega) (by omega) (by omega) (by omega)]; omega), if_pos (by rw [jin_z (by omega) (by omega)]; omega), ix, jk1]
      rfl
    · rw [jhI_1]
      by_cases z : j = k
      · rw [if_pos ⟨rfl, z⟩]
      · rw [if_neg (fun t => z t.2)]; exact q2 j (by omega)) (by
    rintro x ⟨q1, q2⟩
    refine ⟨x, ?_, q1, q2⟩
    show fM_stands_l219_b (jz 18) x = _
    unfold fM_stands_l219_b
    rw [if_neg (by decide)])
  obtain ⟨y7, g1, g2, g3⟩ := hl
  have k7 : ∀ o k, ¬ (o = 148 ∧ k < 18) → ¬ (o = 147 ∧ 1600 ≤ k ∧ k < 1600 + m) → y7.1 o k = y5.1 o k := fun o k n1 n2 => by rw [g2.1 _ _ n1, e2.1 _ _ n2]
  obtain ⟨y8, hy8⟩ : ∃ y, y = jhI (jhI y7 148 1 (jz (-1))) 110 56 (jz 0) := ⟨_, rfl⟩
  have k8 : ∀ o k, ¬ (o = 148 ∧ k = 1) → ¬ (o = 110 ∧ k = 56) → y8.1 o k = y7.1 o k := fun o k n1 n2 => by rw [hy8, jhI_1, if_neg n2, jhI_1, if_neg n1]
  have F : eFr xSd h y8 := by
    have x0 : eFr xSd h y0 := eFr_mono f0 (fun o k hk => by obtain ⟨rfl, rfl⟩ := hk; exact xSd_1 (Or.inl rfl))
    have x1 := eFr_trans x0 (eFr_mono a2 (fun o k hk => xSd_7 hk))
    have x2 := eFr_trans x1 (eFr_mono b2 (fun o k hk => xSd_8 hk))
    have x3 := eFr_trans x2 (eFr_mono c2 (fun o k hk => xSd_140 hk))
    have x4 := eFr_trans x3 (eFr_mono d2 (fun o k hk => xSd_141 hk))
    have x5 : eFr xSd h y5 := by rw [hy5]; exact eFr_I (S := xSd) (eFr_I (S := xSd) x4 xSd_145 _) xSd_146 _
    have x6 := eFr_trans x5 (eFr_mono e2 (fun o k hk => xSd_147 ⟨hk.1, hk.2.1⟩))
    have x7 := eFr_trans x6 (eFr_mono g2 (fun o k hk => xSd_148 hk))
    rw [hy8]
    exact eFr_I (S := xSd) (eFr_I (S := xSd) x7 (xSd_148 ⟨rfl, by omega⟩) _) (xSd_1 (Or.inr rfl)) _
  refine ⟨y8, ?_, F, fun k hk => ⟨?_, ?_⟩, fun k hk => ⟨?_, ?_, ?_⟩, fun k hk => ?_, fun k hk => ?_, ?_, ?_, fun k hk => ?_, fun k hk => ?_, ?_, ?_⟩
  · have i0 : (0 : Int32).toNatClampNeg = 0 := rfl
    have i1 : (1 : Int32).toNatClampNeg = 1 := rfl
    have a1' : jlim fM_stands_l7 (0, jhI h 110 48 1) = some y1 := by rw [show jhI h 110 48 1 = y0 from hy0.symm]; exact a1
    have b1' : jlim fM_stands_l48 (0, y1) = some y2 := b1
    have c1' : jlim fM_stands_l107 (0, y2) = some y3 := c1
    have d1' : jlim fM_stands_l134 (0, y3) = some y4 := d1
    have e1' : jlim fM_stands_l187 (0, y5) = some y6 := e1
    have g1' : jlim fM_stands_l219 (0, y6) = some y7 := g1
    have u0 : y4.1 145 0 = h.1 145 0 := k4 _ _ (by unfold xSt7; omega) (by unfold xSt8; omega) (by omega) (by omega) (by omega)
    have u1 : (jhI y4 145 1 (h.1 145 0)).1 146 0 = h.1 146 0 := by rw [jhI_1, if_neg (by omega)]; exact k4 _ _ (by unfold xSt7; omega) (by unfold xSt8; omega) (by omega) (by omega) (by omega)
    unfold fM_stands
    rw [a1', Option.bind_some, b1', Option.bind_some, c1', Option.bind_some, d1', Option.bind_some]
    simp only [i0, i1, if_pos (show jin 0 2 by decide), if_pos (show jin 1 2 by decide), if_pos (show jin 1 18 by decide)]
    rw [u0, u1, ← hy5, e1', Option.bind_some, g1', Option.bind_some, hy8]
    rfl
  · rw [k8 _ _ (by omega) (by omega), k7 _ _ (by omega) (by omega), k5 _ _ (by omega) (by omega), d2.1 _ _ (by omega), c2.1 _ _ (by omega), b2.1 _ _ (by unfold xSt8; omega), (a3 k hk).1, f0.1 _ _ (by omega)]
  · rw [k8 _ _ (by omega) (by omega), k7 _ _ (by omega) (by omega), k5 _ _ (by omega) (by omega), d2.1 _ _ (by omega), c2.1 _ _ (by omega), b2.1 _ _ (by unfold xSt8; omega), (a3 k hk).2, f0.1 _ _ (by omega)]
  · have l8 : y8.2 = y7.2 := by rw [hy8]; rfl
    have l5 : y5.2 = y4.2 := by rw [hy5]; rfl
    rw [l8, g2.2 _ _ (by omega), e2.2 _ _ (by omega), l5, d2.2 _ _ (by omega), c2.2 _ _ (by omega), (b3 k hk).1, a2.2 _ _ (by unfold xSt7; omega), f0.2 _ _ (by omega)]
  · rw [k8 _ _ (by omega) (by omega), k7 _ _ (by omega) (by omega), k5 _ _ (by omega) (by omega), d2.1 _ _ (by omega), c2.1 _ _ (by omega), (b3 k hk).2.1, a2.1 _ _ (by unfold xSt7; omega), f0.1 _ _ (by omega)]
  · rw [k8 _ _ (by omega) (by omega), k7 _ _ (by omega) (by omega), k5 _ _ (by omega) (by omega), d2.1 _ _ (by omega), c2.1 _ _ (by omega), (b3 k hk).2.2, a2.1 _ _ (by unfold xSt7; omega), f0.1 _ _ (by omega)]
  · rw [k8 _ _ (by omega) (by omega), k7 _ _ (by omega) (by omega), k5 _ _ (by omega) (by omega), d2.1 _ _ (by omega), c3 k hk, b2.1 _ _ (by unfold xSt8; omega), a2.1 _ _ (by unfold xSt7; omega), f0.1 _ _ (by omega)]
  · rw [k8 _ _ (by omega) (by omega), k7 _ _ (by omega) (by omega), k5 _ _ (by omega) (by omega), d3 k hk, c2.1 _ _ (by omega), b2.1 _ _ (by unfold xSt8; omega), a2.1 _ _ (by unfold xSt7; omega), f0.1 _ _ (by omega)]
  · rw [k8 _ _ (by omega) (by omega), k7 _ _ (by omega) (by omega), hy5, jhI_1, if_neg (by omega), jhI_1, if_pos ⟨rfl, rfl⟩]
  · rw [k8 _ _ (by omega) (by omega), k7 _ _ (by omega) (by omega), hy5, jhI_1, if_pos ⟨rfl, rfl⟩]
  · rw [k8 _ _ (by omega) (by omega), g2.1 _ _ (by omega), e3 k hk, k5 _ _ (by omega) (by omega), k4 _ _ (by unfold xSt7; omega) (by unfold xSt8; omega) (by omega) (by omega) (by omega)]
  · rw [hy8, jhI_1, if_neg (by omega), jhI_1]
    by_cases z : k = 1
    · rw [if_pos ⟨rfl, z⟩, if_pos z]
    · rw [if_neg (fun t => z t.2), if_neg z]; exact g3 k hk
  · rw [k8 _ _ (by omega) (by omega), k7 _ _ (by omega) (by omega), k5 _ _ (by omega) (by omega), d2.1 _ _ (by omega), c2.1 _ _ (by omega), b2.1 _ _ (by unfold xSt8; omega), a2.1 _ _ (by unfold xSt7; omega), hy0, jhI_1, if_pos ⟨rfl, rfl⟩]
  · rw [hy8, jhI_1, if_pos ⟨rfl, rfl⟩]
end XSD
theorem sSd_clear2 {o : Nat} {h : jH} : ∃ h', fSd_clear o h = some h' ∧ eFr (fun o' _ => o ≤ o' ∧ o' ≤ o + 2) h h' ∧ h'.1 o 0 = jz 0 ∧ h'.1 o 1 = jz (-1) ∧ ∀ k, k < 8 → h'.1 (o + 1) k = jz 0 ∧ h'.1 (o + 2) k = jz 0 := by
  obtain ⟨y, hy⟩ : ∃ y, y = jhI (jhI h o 0 (jz 0)) o 1 (jz (-1)) := ⟨_, rfl⟩
  have fy : eFr (fun o' _ => o ≤ o' ∧ o' ≤ o + 2) h y := by rw [hy]; exact eFr_I (S := fun o' _ => o ≤ o' ∧ o' ≤ o + 2) (eFr_I (S := fun o' _ => o ≤ o' ∧ o' ≤ o + 2) (eFr_refl _ _) (by omega) _) (by omega) _
  have hl := jlim_cnt (step := fSd_clear_l12 o) (fun k (x : jH) => (jz k, x)) (fun k x => eFr (fun o' _ => o + 1 ≤ o' ∧ o' ≤ o + 2) y x ∧ ∀ j, j < k → x.1 (o + 1) j = jz 0 ∧ x.1 (o + 2) j = jz 0) (fun x => eFr (fun o' _ => o + 1 ≤ o' ∧ o' ≤ o + 2) y x ∧ ∀ j, j < 8 → x.1 (o + 1) j = jz 0 ∧ x.1 (o + 2) j = jz 0) 8 8 0 (by omega) y ⟨eFr_refl _ _, fun j hj => by omega⟩ ?_ ?_
  · obtain ⟨x, e1, r1, r2⟩ := hl
    have e1' : jlim (fSd_clear_l12 o) (0, jhI (jhI h o 0 0) o 1 (-1)) = some x := by rw [show jhI (jhI h o 0 0) o 1 (-1) = y from hy.symm]; exact e1
    refine ⟨x, ?_, eFr_trans fy (eFr_mono r1 (fun o k hk => by omega)), ?_, ?_, r2⟩
    · unfold fSd_clear
      rw [e1', Option.bind_some]
    · rw [r1.1 _ _ (by omega), hy, jhI_1, if_neg (by omega), jhI_1, if_pos ⟨rfl, rfl⟩]
    · rw [r1.1 _ _ (by omega), hy, jhI_1, if_pos ⟨rfl, rfl⟩]
  · rintro k x _ hk ⟨q1, q2⟩
    have ix : (jz (k : Int)).toNatClampNeg = k := by rw [jz_ix (by omega) (by omega), Int.toNat_natCast]
    have jk : jin (jz (k : Int)) 8 := by rw [jin_z (by omega) (by omega)]; omega
    refine ⟨jhI (jhI x (o + 1) k (jz 0)) (o + 2) k (jz 0), ?_, eFr_I (S := fun o' _ => o + 1 ≤ o' ∧ o' ≤ o + 2) (eFr_I (S := fun o' _ => o + 1 ≤ o' ∧ o' ≤ o + 2) q1 (by omega) _) (by omega) _, fun j hj => ?_⟩
    · show fSd_clear_l12_b o (jz k) x = _
      unfold fSd_clear_l12_b
      rw [if_pos (by rw [show (8 : Int32) = jz 8 from rfl, jz_lt (by omega) (by omega) (by omega) (by omega)]; omega), if_pos jk, if_pos jk, ix, jk1]
      rfl
    · by_cases z : j = k
      · subst z
        simp (disch := omega) only [jhI_1, if_neg, if_pos, and_self, if_true]
      · simp (disch := omega) only [jhI_1, if_neg]
        exact q2 j (by omega)
  · rintro x ⟨q1, q2⟩
    refine ⟨x, ?_, q1, q2⟩
    show fSd_clear_l12_b o (jz 8) x = _
    unfold fSd_clear_l12_b
    rw [if_neg (by decide)]
