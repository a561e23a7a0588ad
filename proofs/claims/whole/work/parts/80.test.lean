/-! FACT, BOTH and TEST, on both sides -/
section XQ
variable {n : Nat} {T : Nat → Nat} {o : Nat} {a : Int} {W : List Int} {e : Int} {s : Nat} {L C π : List Int} {hc hm : jH} {f pl : Int}
def xfb (W : List Int) : Prop := ∀ x ∈ W, x = 10 ∨ x = 11 ∨ x = 12 ∨ x = 25
def ygF (h h' : jH) : Prop := eFr xg h h' ∧ mcw h'
theorem ygF_tr {h h1 h2 : jH} (a : eFr xg h h1) (b : ygF h1 h2) : ygF h h2 := ⟨eFr_trans a b.1, b.2⟩
theorem ygF_x {h h1 : jH} (b : xgF h h1) : ygF h h1 := by
  obtain ⟨c, w, c1, c2, c3⟩ := b.2
  exact ⟨b.1, c, w, by omega, c2, c3⟩
def yBad (n : Nat) (T : Nat → Nat) (o : Nat) (hc' hm : jH) (k : Option jH) : Prop := ∃ f pl hm', cF f pl hc' ∧ xcnt o hc' ∧ k = some hm' ∧ mF n T f pl hm' ∧ ygF hm hm'
def yGood (n : Nat) (T : Nat → Nat) (o : Nat) (a : Int) (W : List Int) (s : Nat) (L : List Int) (m : Nat) (P : List Int → Int → Nat → Prop) (hc' hm : jH) (k : Option jH) : Prop := ∃ e' s' l C' π hm', k = tA hm' ∧ xS 0 n T o 1 0 a W e' s' (L ++ l) C' π hc' hm' ∧ P π e' s' ∧ s < s' ∧ jsgB m l ∧ eFr xg hm hm'
def yFact (n : Nat) (T : Nat → Nat) (o N : Nat) (a : Int) : Prop := ∀ W e s L C hc hm, xS 0 n T o 1 0 a W e s L C [] hc hm → xfb W → ∃ hc', fFo_grp N 2 o (jz a) 0 hc = some hc' ∧ eFr (xc o) hc hc' ∧ (yBad n T o hc' hm (tP hm) ∨ yGood n T o a W s L (pm a + 3) (fun π _ _ => π = []) hc' hm (tP hm))
def yBoth (n : Nat) (T : Nat → Nat) (o N : Nat) (a : Int) : Prop := ∀ W e s L C hc hm, xS 0 n T o 1 0 a W e s L C [] hc hm → xfb W → xhd (fun x => x ≠ 10 ∧ x ≠ 12) W → ∃ hc', fFo_grp N 1 o (jz a) 0 hc = some hc' ∧ eFr (xc o) hc hc' ∧ (yBad n T o hc' hm (tP hm) ∨ yGood n T o a W s L (pm a + 4) (fun π e' s' => (∀ x ∈ π, x = 10) ∧ ¬ xHas n T e' s' (xw 20) = true) hc' hm (tP hm))
def yTest (n : Nat) (T : Nat → Nat) (o N : Nat) (a : Int) : Prop := ∀ W e s L C hc hm, xS 0 n T o 1 0 a W e s L C [] hc hm → xfb W → xhd (fun x => x ≠ 10 ∧ x ≠ 11 ∧ x ≠ 12) W → ∃ hc', fFo_grp N 0 o (jz a) 0 hc = some hc' ∧ eFr (xc o) hc hc' ∧ (yBad n T o hc' hm (tP hm) ∨ yGood n T o a W s L (pm a + 5) (fun π e' s' => (∀ x ∈ π, x = 10 ∨ x = 11) ∧ ¬ xHas n T e' s' (xw 20) = true ∧ ¬ xHas n T e' s' (xw 19) = true) hc' hm (tP hm))
theorem xfb_c {x : Int} (h : xfb W) (hx : x = 10 ∨ x = 11 ∨ x = 12 ∨ x = 25) : xfb (x :: W) := fun y hy => by
  rcases List.mem_cons.mp hy with rfl | hy
  · exact hx
  · exact h y hy
theorem xfb_op (h : xfb W) : xhd (fun x => ¬ xop x) W := fun x r hw => by
  have := h x (by rw [hw]; exact List.mem_cons_self ..)
  unfold xop
  omega
theorem xhas_n {i : Nat} (y : xHas n T e s (xw i) = true) : s < n := (xHas_iff.mp y).1.1
theorem both_F {g : jGr} {k : Int32} (R : cF f pl hc) : jlim (fFo_readBoth_g_l8 g o (jz a)) (k, hc) = some hc := by
  rw [jlim_1]
  show lim1 _ (fFo_readBoth_g_l8_b g o (jz a) k hc) = _
  unfold fFo_readBoth_g_l8_b
  split
  · rw [sRd_twordF R, Option.bind_some, if_pos rfl]
    rfl
  · rfl
theorem test_F {g : jGr} {k : Int32} (R : cF f pl hc) : jlim (fFo_readTest_g_l8 g o (jz a)) (k, hc) = some hc := by
  rw [jlim_1]
  show lim1 _ (fFo_readTest_g_l8_b g o (jz a) k hc) = _
  unfold fFo_readTest_g_l8_b
  split
  · rw [sRd_twordF R, Option.bind_some, if_pos rfl]
    rfl
  · rfl
theorem both_loop {K : Nat} (ih : yFact n T o K a) (ha : 0 ≤ a ∧ a ≤ 6) (hf : xfb W) (hh : xhd (fun x => x ≠ 10 ∧ x ≠ 12) W) {s0 : Nat} {L0 : List Int} : ∀ (M s : Nat), n - s < M → ∀ (k : Nat) (e : Int) (l C π : List Int) (hc hm : jH), k ≤ s → xS 0 n T o 1 0 a W e s (L0 ++ l) C π hc hm → (∀ x ∈ π, x = 10) → jsgB (pm a + 4) l → s0 < s → ∃ hc', jlim (fFo_readBoth_g_l8 (fFo_grp K) o (jz a)) (jz k, hc) = some hc' ∧ eFr (xc o) hc hc' ∧ (yBad n T o hc' hm (tA hm) ∨ yGood n T o a W s0 L0 (pm a + 4) (fun π e' s' => (∀ x ∈ π, x = 10) ∧ ¬ xHas n T e' s' (xw 20) = true) hc' hm (tA hm)) := by
  intro M
  induction M with
  | zero => intro s h; omega
  | succ M ihM =>
    intro s hM k e l C π hc hm hk S hp hj hs
    have S0 := S
    obtain ⟨R, O, R', O', rl, hl, -⟩ := S0
    have me := mR_e R'
    have ho := O.2.2.2.2
    obtain ⟨ta1, ta2⟩ := sRd_tword (i := 20) R (by omega)
    by_cases y : xHas n T e s (xw 20) = true
    · have c0 : s < n := xhas_n y
      obtain ⟨hc1, a1, a2, a3⟩ := ta2 y
      obtain ⟨h1, k1, k2, k3, k4⟩ := tG_and R' O' hp (fun x r h => by have := hh x r h; omega) (fun x r h => by have := hh x r h; omega) (Nat.zero_le _) y (by omega)
      have sg1 := xRunL_gt c0 (xHas_L (xw_ok (i := 20) (by omega)).1 (xw_ok (i := 20) (by omega)).2.2.2 y)
      have sgk := xSk_ge (n := n) (T := T) (s := xRun n T xL s)
      have S1 : xS 0 n T o 1 0 a (10 :: W) (xRun n T xL s) (xSk n T (xRun n T xL s)) (L0 ++ l) (C ++ π) [] hc1 h1 := xS_mk a2 (cO_6 O a3) k2 k3 rl (by simp only [List.length_cons, List.length_append]; omega) (Nat.zero_le _)
      obtain ⟨hc2, g1, g2, g3⟩ := ih _ _ _ _ _ _ _ S1 (xfb_c hf (by omega))
      have hl1 : jlim (fFo_readBoth_g_l8 (fFo_grp K) o (jz a)) (jz k, hc) = Option.bind (fFo_add o (jz (-20)) hc2) (fun z6 => jlim (fFo_readBoth_g_l8 (fFo_grp K) o (jz a)) (jz k + 1, z6)) := by
        rw [jlim_1]
        show lim1 _ (fFo_readBoth_g_l8_b (fFo_grp K) o (jz a) (jz k) hc) = _
        unfold fFo_readBoth_g_l8_b
        rw [if_pos ((lt1600 (by omega)).mpr (by omega)), show fRd_takesWord 1020 hc = _ from a1, Option.bind_some, if_neg (show ¬ (1 : Int32) = 0 by decide), g1, Option.bind_some, lim1_bind]
        rfl
      rcases g3 with ⟨f', pl', h5, b1, b2, b3, b4, b5⟩ | ⟨e5, s5, l5, C5, π5, h5, d1, d2, d3, d4, d5, d6⟩
      · obtain ⟨hc3, u1, u2, u3⟩ := sFo_addF b2 (jz (-20))
        have R3 := cF_a b1 u3 ho
        refine ⟨hc3, ?_, eFr_trans (xc_6 a3) (eFr_trans g2 (xc_a u3)), Or.inl ⟨f', pl', h5, R3, u2, by rw [k1, b3], b4, ygF_tr k4 b5⟩⟩
        rw [hl1, u1, Option.bind_some, both_F R3]
      · obtain ⟨u1, u2, u3, u4, u5, u6, u7⟩ := d2
        simp only [List.length_cons] at u6
        have me5 := mR_e u3
        have ul : (L0 ++ l ++ l5).length < 1600 := by
          have := u5.1
          rw [List.length_append (as := C5)] at this
          omega
        obtain ⟨hc3, t1, t2, t3⟩ := sFo_add (x := -20) u2 ul
        have lf : L0 ++ l ++ l5 ++ [-20] = L0 ++ (l ++ (l5 ++ [-20])) := by simp only [List.append_assoc]
        rw [lf] at t2
        have d3' : π5 = [] := d3
        subst d3'
        rw [List.append_nil] at u5
        have S3 : xS 0 n T o 1 0 a W e5 s5 (L0 ++ (l ++ (l5 ++ [-20]))) C5 ([10]) hc3 h5 := ⟨cR_a u1 t3 ho, t2, u3, u4, by rw [← lf]; exact xRel_add u5 (Or.inl (show (10 : Int) = jcode (-20) from rfl)), by simp only [List.length_append, List.length_singleton, List.length_nil] at u6 ⊢; omega, Nat.zero_le _⟩
        have j3 : jsgB (pm a + 4) (l ++ (l5 ++ [-20])) := jsgB_m (jsgB_bool hj d5 (by omega)) (by omega)
        obtain ⟨hc4, w1, w3, w4⟩ := ihM s5 (by omega) (k + 1) e5 (l ++ (l5 ++ [-20])) C5 ([10]) hc3 h5 (by omega) S3 (fun z hz => List.mem_singleton.mp hz) j3 (by omega)
        refine ⟨hc4, ?_, eFr_trans (xc_6 a3) (eFr_trans g2 (eFr_trans (xc_a t3) w3)), ?_⟩
        · rw [hl1, t1, Option.bind_some, jk1, w1]
        · have kk : tA hm = tA h5 := by rw [k1, d1]
          have ff : eFr xg hm h5 := eFr_trans k4 d6
          rcases w4 with ⟨f', pl', h7, b1, b2, b3, b4, b5⟩ | ⟨e7, s7, l7, C7, π7, h7, y1, y2, y3, y4, y5, y6⟩
          · exact Or.inl ⟨f', pl', h7, b1, b2, by rw [kk, b3], b4, ygF_tr ff b5⟩
          · exact Or.inr ⟨e7, s7, l7, C7, π7, h7, by rw [kk, y1], y2, y3, y4, y5, eFr_trans ff y6⟩
    · refine ⟨hc, ?_, eFr_refl _ _, Or.inr ⟨e, s, l, C, π, hm, rfl, S, ⟨hp, y⟩, hs, hj, eFr_refl _ _⟩⟩
      rw [jlim_1]
      show lim1 _ (fFo_readBoth_g_l8_b (fFo_grp K) o (jz a) (jz k) hc) = _
      unfold fFo_readBoth_g_l8_b
      by_cases k6 : k < 1600
      · rw [if_pos ((lt1600 (by omega)).mpr k6), show fRd_takesWord 1020 hc = _ from ta1 y, Option.bind_some, if_pos rfl]
        rfl
      · rw [if_neg (fun t => k6 ((lt1600 (by omega)).mp t))]
        rfl
theorem yBoth_of {K : Nat} (ih : yFact n T o K a) (ha : 0 ≤ a ∧ a ≤ 6) : yBoth n T o (K + 1) a := by
  intro W e s L C hc hm S hf hh
  show ∃ hc', fFo_readBoth_g (fFo_grp K) o (jz a) hc = some hc' ∧ _
  obtain ⟨hc1, g1, g2, g3⟩ := ih _ _ _ _ _ _ _ S hf
  unfold fFo_readBoth_g
  rw [g1, Option.bind_some]
  rcases g3 with ⟨f', pl', h5, b1, b2, b3, b4, b5⟩ | ⟨e5, s5, l5, C5, π5, h5, d1, d2, d3, d4, d5, d6⟩
  · exact ⟨hc1, by rw [both_F b1, Option.bind_some], g2, Or.inl ⟨f', pl', h5, b1, b2, b3, b4, b5⟩⟩
  · have me5 := mR_e d2.2.2.1
    have d3' : π5 = [] := d3
    subst d3'
    obtain ⟨hc4, w1, w3, w4⟩ := both_loop ih ha hf hh (s0 := s) (L0 := L) (n - s5 + 1) s5 (by omega) 0 e5 l5 C5 [] hc1 h5 (by omega) d2 (fun x hx => by cases hx) (jsgB_m d5 (by omega)) d4
    have w1' : jlim (fFo_readBoth_g_l8 (fFo_grp K) o (jz a)) (0, hc1) = some hc4 := w1
    refine ⟨hc4, by rw [w1', Option.bind_some], eFr_trans g2 w3, ?_⟩
    rcases w4 with ⟨f', pl', h7, b1, b2, b3, b4, b5⟩ | ⟨e7, s7, l7, C7, π7, h7, y1, y2, y3, y4, y5, y6⟩
    · exact Or.inl ⟨f', pl', h7, b1, b2, by rw [d1, b3], b4, ygF_tr d6 b5⟩
    · exact Or.inr ⟨e7, s7, l7, C7, π7, h7, by rw [d1, y1], y2, y3, y4, y5, eFr_trans d6 y6⟩
theorem test_loop {K : Nat} (ih : yBoth n T o K a) (ha : 0 ≤ a ∧ a ≤ 6) (hf : xfb W) (hh : xhd (fun x => x ≠ 10 ∧ x ≠ 11 ∧ x ≠ 12) W) {s0 : Nat} {L0 : List Int} : ∀ (M s : Nat), n - s < M → ∀ (k : Nat) (e : Int) (l C π : List Int) (hc hm : jH), k ≤ s → xS 0 n T o 1 0 a W e s (L0 ++ l) C π hc hm → (∀ x ∈ π, x = 10 ∨ x = 11) → ¬ xHas n T e s (xw 20) = true → jsgB (pm a + 5) l → s0 < s → ∃ hc', jlim (fFo_readTest_g_l8 (fFo_grp K) o (jz a)) (jz k, hc) = some hc' ∧ eFr (xc o) hc hc' ∧ (yBad n T o hc' hm (tA hm) ∨ yGood n T o a W s0 L0 (pm a + 5) (fun π e' s' => (∀ x ∈ π, x = 10 ∨ x = 11) ∧ ¬ xHas n T e' s' (xw 20) = true ∧ ¬ xHas n T e' s' (xw 19) = true) hc' hm (tA hm)) := by
  intro M
  induction M with
  | zero => intro s h; omega
  | succ M ihM =>
    intro s hM k e l C π hc hm hk S hp n20 hj hs
    have S0 := S
    obtain ⟨R, O, R', O', rl, hl, -⟩ := S0
    have me := mR_e R'
    have ho := O.2.2.2.2
    obtain ⟨ta1, ta2⟩ := sRd_tword (i := 19) R (by omega)
    by_cases y : xHas n T e s (xw 19) = true
    · have c0 : s < n := xhas_n y
      obtain ⟨hc1, a1, a2, a3⟩ := ta2 y
      obtain ⟨h1, k1, k2, k3, k4⟩ := tG_or R' O' hp (fun x r h => by have := hh x r h; omega) (fun x r h => by have := hh x r h; omega) (Nat.zero_le _) y (by omega)
      have sg1 := xRunL_gt c0 (xHas_L (xw_ok (i := 19) (by omega)).1 (xw_ok (i := 19) (by omega)).2.2.2 y)
      have sgk := xSk_ge (n := n) (T := T) (s := xRun n T xL s)
      have S1 : xS 0 n T o 1 0 a (11 :: W) (xRun n T xL s) (xSk n T (xRun n T xL s)) (L0 ++ l) (C ++ π) [] hc1 h1 := xS_mk a2 (cO_6 O a3) k2 k3 rl (by simp only [List.length_cons, List.length_append]; omega) (Nat.zero_le _)
      obtain ⟨hc2, g1, g2, g3⟩ := ih _ _ _ _ _ _ _ S1 (xfb_c hf (by omega)) (fun x r h => by have := (List.cons.inj h).1; omega)
      have hl1 : jlim (fFo_readTest_g_l8 (fFo_grp K) o (jz a)) (jz k, hc) = Option.bind (fFo_add o (jz (-21)) hc2) (fun z6 => jlim (fFo_readTest_g_l8 (fFo_grp K) o (jz a)) (jz k + 1, z6)) := by
        rw [jlim_1]
        show lim1 _ (fFo_readTest_g_l8_b (fFo_grp K) o (jz a) (jz k) hc) = _
        unfold fFo_readTest_g_l8_b
        rw [if_pos ((lt1600 (by omega)).mpr (by omega)), show fRd_takesWord 1019 hc = _ from a1, Option.bind_some, if_neg (show ¬ (1 : Int32) = 0 by decide), g1, Option.bind_some, lim1_bind]
        rfl
      rcases g3 with ⟨f', pl', h5, b1, b2, b3, b4, b5⟩ | ⟨e5, s5, l5, C5, π5, h5, d1, d2, d3, d4, d5, d6⟩
      · obtain ⟨hc3, u1, u2, u3⟩ := sFo_addF b2 (jz (-21))
        have R3 := cF_a b1 u3 ho
        refine ⟨hc3, ?_, eFr_trans (xc_6 a3) (eFr_trans g2 (xc_a u3)), Or.inl ⟨f', pl', h5, R3, u2, by rw [k1, b3], b4, ygF_tr k4 b5⟩⟩
        rw [hl1, u1, Option.bind_some, test_F R3]
      · obtain ⟨u1, u2, u3, u4, u5, u6, u7⟩ := d2
        simp only [List.length_cons] at u6
        have me5 := mR_e u3
        have ul : (L0 ++ l ++ l5).length < 1600 := by
          have := u5.1
          rw [List.length_append (as := C5)] at this
          omega
        obtain ⟨hc3, t1, t2, t3⟩ := sFo_add (x := -21) u2 ul
        have lf : L0 ++ l ++ l5 ++ [-21] = L0 ++ (l ++ (l5 ++ [-21])) := by simp only [List.append_assoc]
        rw [lf] at t2
        obtain ⟨d31, d32⟩ := d3
        have S3 : xS 0 n T o 1 0 a W e5 s5 (L0 ++ (l ++ (l5 ++ [-21]))) C5 (π5 ++ [11]) hc3 h5 := ⟨cR_a u1 t3 ho, t2, u3, by rw [List.append_assoc]; exact u4, by rw [← lf, ← List.append_assoc]; exact xRel_add u5 (Or.inl (show (11 : Int) = jcode (-21) from rfl)), by simp only [List.length_append, List.length_singleton, List.length_nil] at u6 ⊢; omega, Nat.zero_le _⟩
        have j3 : jsgB (pm a + 5) (l ++ (l5 ++ [-21])) := jsgB_m (jsgB_bool hj d5 (by omega)) (by omega)
        obtain ⟨hc4, w1, w3, w4⟩ := ihM s5 (by omega) (k + 1) e5 (l ++ (l5 ++ [-21])) C5 (π5 ++ [11]) hc3 h5 (by omega) S3 (fun z hz => by
          rcases List.mem_append.mp hz with hz | hz
          · exact Or.inl (d31 z hz)
          · exact Or.inr (List.mem_singleton.mp hz)) d32 j3 (by omega)
        refine ⟨hc4, ?_, eFr_trans (xc_6 a3) (eFr_trans g2 (eFr_trans (xc_a t3) w3)), ?_⟩
        · rw [hl1, t1, Option.bind_some, jk1, w1]
        · have kk : tA hm = tA h5 := by rw [k1, d1]
          have ff : eFr xg hm h5 := eFr_trans k4 d6
          rcases w4 with ⟨f', pl', h7, b1, b2, b3, b4, b5⟩ | ⟨e7, s7, l7, C7, π7, h7, y1, y2, y3, y4, y5, y6⟩
          · exact Or.inl ⟨f', pl', h7, b1, b2, by rw [kk, b3], b4, ygF_tr ff b5⟩
          · exact Or.inr ⟨e7, s7, l7, C7, π7, h7, by rw [kk, y1], y2, y3, y4, y5, eFr_trans ff y6⟩
    · refine ⟨hc, ?_, eFr_refl _ _, Or.inr ⟨e, s, l, C, π, hm, rfl, S, ⟨hp, n20, y⟩, hs, hj, eFr_refl _ _⟩⟩
      rw [jlim_1]
      show lim1 _ (fFo_readTest_g_l8_b (fFo_grp K) o (jz a) (jz k) hc) = _
      unfold fFo_readTest_g_l8_b
      by_cases k6 : k < 1600
      · rw [if_pos ((lt1600 (by omega)).mpr k6), show fRd_takesWord 1019 hc = _ from ta1 y, Option.bind_some, if_pos rfl]
        rfl
      · rw [if_neg (fun t => k6 ((lt1600 (by omega)).mp t))]
        rfl
theorem yTest_of {K : Nat} (ih : yBoth n T o K a) (ha : 0 ≤ a ∧ a ≤ 6) : yTest n T o (K + 1) a := by
  intro W e s L C hc hm S hf hh
  show ∃ hc', fFo_readTest_g (fFo_grp K) o (jz a) hc = some hc' ∧ _
  obtain ⟨hc1, g1, g2, g3⟩ := ih _ _ _ _ _ _ _ S hf (fun x r h => by have := hh x r h; omega)
  unfold fFo_readTest_g
  rw [g1, Option.bind_some]
  rcases g3 with ⟨f', pl', h5, b1, b2, b3, b4, b5⟩ | ⟨e5, s5, l5, C5, π5, h5, d1, d2, d3, d4, d5, d6⟩
  · exact ⟨hc1, by rw [test_F b1, Option.bind_some], g2, Or.inl ⟨f', pl', h5, b1, b2, b3, b4, b5⟩⟩
  · have me5 := mR_e d2.2.2.1
    obtain ⟨d31, d32⟩ := d3
    obtain ⟨hc4, w1, w3, w4⟩ := test_loop ih ha hf hh (s0 := s) (L0 := L) (n - s5 + 1) s5 (by omega) 0 e5 l5 C5 π5 hc1 h5 (by omega) d2 (fun x hx => Or.inl (d31 x hx)) d32 (jsgB_m d5 (by omega)) d4
    have w1' : jlim (fFo_readTest_g_l8 (fFo_grp K) o (jz a)) (0, hc1) = some hc4 := w1
    refine ⟨hc4, by rw [w1', Option.bind_some], eFr_trans g2 w3, ?_⟩
    rcases w4 with ⟨f', pl', h7, b1, b2, b3, b4, b5⟩ | ⟨e7, s7, l7, C7, π7, h7, y1, y2, y3, y4, y5, y6⟩
    · exact Or.inl ⟨f', pl', h7, b1, b2, by rw [d1, b3], b4, ygF_tr d6 b5⟩
    · exact Or.inr ⟨e7, s7, l7, C7, π7, h7, by rw [d1, y1], y2, y3, y4, y5, eFr_trans d6 y6⟩
/-- a sign and the second SUM -/
theorem fact_cmp {K : Nat} {x : Nat} {st c : Int} {h5 : jH} {l : List Int} {s0 : Nat} (hK : 28 ≤ K) (ha : 0 ≤ a ∧ a ≤ 6) (hx : (x = 60 ∧ st = -17 ∧ c = 7) ∨ (x = 62 ∧ st = -18 ∧ c = 8) ∨ (x = 61 ∧ st = -19 ∧ c = 9)) (R : cR n T e (xSk n T (s + 1)) hc) (O : cO o (L ++ l) 1 hc) (R' : mL n T e s h5) (O' : mO W 0 a C 1 h5) (rl : xRel 1 (L ++ l) C) (hl : C.length + W.length ≤ s) (hf : xfb W) (hx2 : s < n) (hj : jseg (pm a + 2) l) (hs : s0 < s) : ∃ hc', Option.bind (fFo_grp K 3 o (jz a) 0 hc) (fun z9 => Option.bind (fFo_add o (jz st) z9) (fun z10 => some z10)) = some hc' ∧ eFr (xc o) hc hc' ∧ (yBad n T o hc' h5 (Option.bind (fM_qFact_j63 (jz x) h5) tA) ∨ yGood n T o a W s0 L (pm a + 3) (fun π _ _ => π = []) hc' h5 (Option.bind (fM_qFact_j63 (jz x) h5) tA)) := by
  have ho := O.2.2.2.2
  have me := mR_e R'.1
  have sg := xSk_ge (n := n) (T := T) (s := s + 1)
  have e1 : h5.1 110 2 + 1 = jz ((s + 1 : Nat) : Int) := by rw [R'.2, show (1 : Int32) = jz 1 from rfl, jz_add]; rfl
  have R6 := mR_sign R' hx2
  have f6 : eFr xm h5 (jhI h5 110 2 (jz ((s + 1 : Nat) : Int))) := xm_I2 (eFr_refl _ _) _
  have O6 := mO_m O' f6
  have jc : jcode st = c := by rcases hx with ⟨-, rfl, rfl⟩ | ⟨-, rfl, rfl⟩ | ⟨-, rfl, rfl⟩ <;> rfl
  have j63 : fM_qFact_j63 (jz x) h5 = Option.bind (fM_qSums (jhI h5 110 2 (jz ((s + 1 : Nat) : Int)))) (fun z7 => Option.bind (fM_qCode (jz c) z7) (fun z9 => some z9)) := by
    unfold fM_qFact_j63
    rw [e1]
    congr 1
    funext z7
    rcases hx with ⟨rfl, -, rfl⟩ | ⟨rfl, -, rfl⟩ | ⟨rfl, -, rfl⟩
    · rw [if_pos (by rfl)]
      rfl
    · rw [if_neg (by decide), if_pos (by rfl)]
      rfl
    · rw [if_neg (by decide), if_neg (by decide)]
      rfl
  obtain ⟨hc2, g1, g2, g3⟩ := sums_ok (dd := 1) hK ha R O R6 O6 rl (by omega) (xfb_op hf)
  rw [j63]
  rcases g3 with ⟨f', pl', h7, b1, b2, b3, b4, b5⟩ | ⟨e7, s7, l7, C7, h7, d1, d2, d3, d4, d5, d6, d7, d8, d9, d10, d11, d12⟩
  · obtain ⟨hc3, u1, u2, u3⟩ := sFo_addF b2 (jz st)
    obtain ⟨h8, w1, w2, w3, w4⟩ := sM_codeC b4 b5.2 (jz c)
    refine ⟨hc3, by rw [g1, Option.bind_some, u1, Option.bind_some], eFr_trans g2 (xc_a u3), Or.inl ⟨f', pl', h8, cF_a b1 u3 ho, u2, ?_, w2, eFr_trans (xg_m f6) (eFr_trans b5.1 (xg_q w3)), w4⟩⟩
    rw [b3, Option.bind_some, w1, Option.bind_some, Option.bind_some, tA_F w2]
  · have ul : (L ++ l ++ l7).length < 1600 := by
      have := d6.1
      have me7 := mR_e d4.1
      omega
    obtain ⟨hc3, t1, t2, t3⟩ := sFo_add (x := st) d3 ul
    obtain ⟨h8, w1, w2, w3⟩ := sM_code (c := c) d5 (by have := mR_e d4.1; omega)
    have lf : L ++ l ++ l7 ++ [st] = L ++ (l ++ (l7 ++ [st])) := by simp only [List.append_assoc]
    have me7 := mR_e d4.1
    refine ⟨hc3, by rw [g1, Option.bind_some, t1, Option.bind_some], eFr_trans g2 (xc_a t3), Or.inr ⟨e7, s7, l ++ (l7 ++ [st]), C7 ++ [c], [], h8, ?_, ?_, rfl, by omega, jsgB_m (jsgB_cmp hj d9 (by omega)) (by omega), eFr_trans (xg_m f6) (eFr_trans d12 (xg_q w3))⟩⟩
    · rw [d1, Option.bind_some, w1, Option.bind_some, Option.bind_some]
    · rw [← lf]
      exact xS_mk (cR_a d2 t3 ho) t2 (mR_q d4.1 w3) w2 (xRel_add d6 (Or.inl jc.symm)) (by rw [List.length_append, List.length_singleton]; omega) (Nat.zero_le _)
theorem fact_F {K : Nat} (hK : K ≠ 0) (R : cF f pl hc) (O : xcnt o hc) (ho : 8 ≤ o) : ∃ hc', Option.bind (fFo_readSign hc) (fun z8 => Option.bind (fFo_grp K 3 o (jz a) 0 z8.2) (fun z9 => Option.bind (fFo_add o z8.1 z9) (fun z10 => some z10))) = some hc' ∧ cF f pl hc' ∧ xcnt o hc' ∧ eFr (xc o) hc hc' := by
  obtain ⟨h1, p1, p2, p3⟩ := sRd_wsignF R 61
  obtain ⟨h2, q1, q2, q3⟩ := sFo_addF (xcnt_6 O p3 ho) (-19)
  refine ⟨h2, ?_, cF_a p2 q3 ho, q2, eFr_trans (xc_6 p3) (xc_a q3)⟩
  unfold fFo_readSign
  rw [sRd_tsignF R, Option.bind_some, if_pos rfl]
  dsimp only
  rw [sRd_tsignF R, Option.bind_some, if_pos rfl]
  dsimp only
  rw [p1, Option.bind_some, Option.bind_some]
  dsimp only
  rw [sums_F hK p2, Option.bind_some, q1, Option.bind_some]
/-- SUM SIGN SUM -/
theorem fact_sums {K : Nat} (hK : 28 ≤ K) (ha : 0 ≤ a ∧ a ≤ 6) (S : xS 0 n T o 1 0 a W e s L C [] hc hm) (hf : xfb W) (R0 : mL n T e s hm) (n22 : ¬ xHas n T e s (xw 22) = true) : ∃ hc', Option.bind (fFo_grp K 3 o (jz a) 0 hc) (fun z7 => Option.bind (fFo_readSign z7) (fun z8 => Option.bind (fFo_grp K 3 o (jz a) 0 z8.2) (fun z9 => Option.bind (fFo_add o z8.1 z9) (fun z10 => some z10)))) = some hc' ∧ eFr (xc o) hc hc' ∧ (yBad n T o hc' hm (Option.bind (fM_qFact hm) tA) ∨ yGood n T o a W s L (pm a + 3) (fun π _ _ => π = []) hc' hm (Option.bind (fM_qFact hm) tA)) := by
  obtain ⟨R, O, R', O', rl, hl, hb⟩ := xS_un S
  have ho := O.2.2.2.2
  have tk : fM_takes 162 hm = some (0, hm) := sM_tk0 R0 (xMw_xw (i := 9) (by omega)) n22
  obtain ⟨hc1, g1, g2, g3⟩ := sums_ok (dd := 0) hK ha R O R' O' rl hl (xfb_op hf)
  rw [g1, Option.bind_some]
  rcases g3 with ⟨f', pl', h7, b1, b2, b3, b4, b5⟩ | ⟨e5, s5, l5, C5, h5, d1, d2, d3, d4, d5, d6, d7, d8, d9, d10, d11, d12⟩
  · obtain ⟨hc2, u1, u2, u3, u4⟩ := fact_F (a := a) (K := K) (by omega) b1 b2 ho
    refine ⟨hc2, u1, eFr_trans g2 u4, Or.inl ⟨f', pl', h7, u2, u3, ?_, b4, ygF_x b5⟩⟩
    unfold fM_qFact
    rw [tk, Option.bind_some, if_pos rfl]
    dsimp only
    rw [b3, Option.bind_some, if_neg (mF_5 b4), Option.bind_some, tA_F b4]
  · have me5 := mR_e d4.1
    have k60 : jz (xCh n T s5) = 60 ↔ s5 < n ∧ T s5 = 60 := xCh_iff (c := 60) d4.1.1 (by omega)
    have k62 : jz (xCh n T s5) = 62 ↔ s5 < n ∧ T s5 = 62 := xCh_iff (c := 62) d4.1.1 (by omega)
    have k61 : jz (xCh n T s5) = 61 ↔ s5 < n ∧ T s5 = 61 := xCh_iff (c := 61) d4.1.1 (by omega)
    have qf : fM_qFact hm = (if jz (xCh n T s5) = 60 then fM_qFact_j63 (jz (xCh n T s5)) h5 else if jz (xCh n T s5) = 62 then fM_qFact_j63 (jz (xCh n T s5)) h5 else if jz (xCh n T s5) = 61 then fM_qFact_j63 (jz (xCh n T s5)) h5 else some (fM_fail 1 (jz s5) h5)) := by
      unfold fM_qFact
      rw [tk, Option.bind_some, if_pos rfl]
      dsimp only
      rw [d1, Option.bind_some, if_pos (mR_5 d4.1), sM_look0 d4, Option.bind_some, d4.2]
    obtain ⟨ta1, ta2⟩ := sRd_tsign (c := 60) d2 (by omega) rfl rfl me5.2.1
    obtain ⟨tb1, tb2⟩ := sRd_tsign (c := 62) d2 (by omega) rfl rfl me5.2.1
    obtain ⟨tc1, tc2⟩ := sRd_wsign (c := 61) d2 (by omega) rfl rfl me5.2.1
    have go : ∀ (x : Nat) (st c : Int) (hc2 : jH), ((x = 60 ∧ st = -17 ∧ c = 7) ∨ (x = 62 ∧ st = -18 ∧ c = 8) ∨ (x = 61 ∧ st = -19 ∧ c = 9)) → s5 < n → cR n T e5 (xSk n T (s5 + 1)) hc2 → eFr x6 hc1 hc2 → fFo_readSign hc1 = some (jz st, hc2) → fM_qFact hm = fM_qFact_j63 (jz x) h5 → ∃ hc', Option.bind (fFo_readSign hc1) (fun z8 => Option.bind (fFo_grp K 3 o (jz a) 0 z8.2) (fun z9 => Option.bind (fFo_add o z8.1 z9) (fun z10 => some z10))) = some hc' ∧ eFr (xc o) hc hc' ∧ (yBad n T o hc' hm (Option.bind (fM_qFact hm) tA) ∨ yGood n T o a W s L (pm a + 3) (fun π _ _ => π = []) hc' hm (Option.bind (fM_qFact hm) tA)) := by
      intro x st c hc2 hx c0 R2 f2 rs qx
      obtain ⟨hc3, p1, p2, p3⟩ := fact_cmp (s0 := s) (h5 := h5) hK ha hx R2 (cO_6 d3 f2) d4 d5 d6 d7 hf c0 d9 d8
      refine ⟨hc3, by rw [rs, Option.bind_some]; exact p1, eFr_trans g2 (eFr_trans (xc_6 f2) p2), ?_⟩
      rw [qx]
      rcases p3 with ⟨f', pl', h7, b1, b2, b3, b4, b5⟩ | ⟨e7, s7, l7, C7, π7, h7, y1, y2, y3, y4, y5, y6⟩
      · exact Or.inl ⟨f', pl', h7, b1, b2, b3, b4, ygF_tr d12 b5⟩
      · exact Or.inr ⟨e7, s7, l7, C7, π7, h7, y1, y2, y3, y4, y5, eFr_trans d12 y6⟩
    by_cases ca : s5 < n ∧ T s5 = 60
    · obtain ⟨hc2, a1, a2, a3⟩ := ta2 ca
      refine go 60 (-17) 7 hc2 (Or.inl ⟨rfl, rfl, rfl⟩) ca.1 a2 a3 ?_ ?_
      · unfold fFo_readSign
        rw [show fRd_takesSign 60 hc1 = _ from a1, Option.bind_some, if_neg (show ¬ (1 : Int32) = 0 by decide)]
        rfl
      · rw [qf, if_pos (k60.mpr ca), k60.mpr ca]
        rfl
    · by_cases cb : s5 < n ∧ T s5 = 62
      · obtain ⟨hc2, a1, a2, a3⟩ := tb2 cb
        refine go 62 (-18) 8 hc2 (Or.inr (Or.inl ⟨rfl, rfl, rfl⟩)) cb.1 a2 a3 ?_ ?_
        · unfold fFo_readSign
          rw [show fRd_takesSign 60 hc1 = _ from ta1 ca, Option.bind_some, if_pos rfl]
          dsimp only
          rw [show fRd_takesSign 62 hc1 = _ from a1, Option.bind_some, if_neg (show ¬ (1 : Int32) = 0 by decide)]
          rfl
        · rw [qf, if_neg (fun t => ca (k60.mp t)), if_pos (k62.mpr cb), k62.mpr cb]
          rfl
      · have rs : ∀ z, fRd_wantsSign 61 hc1 = some z → fFo_readSign hc1 = some (-19, z) := by
          intro z hz
          unfold fFo_readSign
          rw [show fRd_takesSign 60 hc1 = _ from ta1 ca, Option.bind_some, if_pos rfl]
          dsimp only
          rw [show fRd_takesSign 62 hc1 = _ from tb1 cb, Option.bind_some, if_pos rfl]
          dsimp only
          rw [hz, Option.bind_some]
        by_cases cc : s5 < n ∧ T s5 = 61
        · obtain ⟨hc2, a1, a2, a3⟩ := tc2 cc
          refine go 61 (-19) 9 hc2 (Or.inr (Or.inr ⟨rfl, rfl, rfl⟩)) cc.1 a2 a3 (rs _ a1) ?_
          rw [qf, if_neg (fun t => ca (k60.mp t)), if_neg (fun t => cb (k62.mp t)), if_pos (k61.mpr cc), k61.mpr cc]
          rfl
        · obtain ⟨hc2, a1, a2, a3⟩ := tc1 cc
          have fl := sM_failR (p2 := (s5 : Int)) d4 (f := 1) (by omega)
          obtain ⟨hc3, q1, q2, q3⟩ := sFo_addF (xcnt_6 (cO_cnt d3) a3 ho) (-19)
          refine ⟨hc3, ?_, eFr_trans g2 (eFr_trans (xc_6 a3) (xc_a q3)), Or.inl ⟨1, s5, fM_fail 1 (jz s5) h5, cF_a a2 q3 ho, q2, ?_, fl.1, ygF_tr d12 (ygF_x ⟨xg_m fl.2, mcnt_m (mO_cnt d5) fl.2⟩)⟩⟩
          · rw [rs _ a1, Option.bind_some]
            dsimp only
            rw [sums_F (by omega) a2, Option.bind_some, q1, Option.bind_some]
          · rw [qf, if_neg (fun t => ca (k60.mp t)), if_neg (fun t => cb (k62.mp t)), if_neg (fun t => cc (k61.mp t)), Option.bind_some]
            exact tA_F fl.1
end XQ
