/-! PRODUCT and SUM, on both sides -/
section XY
variable {dd : Nat} {v : Int32} {n : Nat} {T : Nat → Nat} {o : Nat} {md : Int} {b : Nat} {a : Int} {W : List Int} {e : Int} {s : Nat} {L C π : List Int} {hc hm : jH} {f pl : Int}
/-- what may lie below a PRODUCT -/
def xbp (W : List Int) (b : Nat) : Prop := xbr W b ∨ (b < W.length ∧ xhd (fun x => x = 1 ∨ x = 2) W ∧ ∃ V, xbr V b ∧ ∃ y, W = y :: V)
def xProdL (dd : Nat) (v : Int32) (n : Nat) (T : Nat → Nat) (o : Nat) (md : Int) (b N : Nat) (a : Int) : Prop := ∀ W e s L C hc hm, xS dd n T o md b a W e s L C [] hc hm → xbp W b → xhd (fun x => x ≠ 3 ∧ x ≠ 4) W → ∃ hc', fFo_grp N 4 o (jz a) 0 hc = some hc' ∧ eFr (xc o) hc hc' ∧ (xBad n T o hc' hm (kP v hm) ∨ xGood dd v n T o md b a W s L (pm a + 1) (fun π s' => (∀ x ∈ π, x = 3 ∨ x = 4) ∧ ¬ (s' < n ∧ T s' = 42) ∧ ¬ (s' < n ∧ T s' = 47)) hc' hm (kP v hm))
theorem prod_F {g : jGr} {k : Int32} (R : cF f pl hc) : ∃ r, jlim (fFo_readProduct_g_l8 g o (jz a)) (k, hc) = some r ∧ Sum.elim (fun y => some y) (fun y => some y) r = some hc := by
  rw [jlim_1]
  show ∃ r, lim1 _ (fFo_readProduct_g_l8_b g o (jz a) k hc) = some r ∧ _
  unfold fFo_readProduct_g_l8_b
  split
  · rw [sRd_tsignF R, Option.bind_some, if_pos rfl]
    dsimp only
    rw [sRd_tsignF R, Option.bind_some, if_pos rfl]
    exact ⟨_, rfl, rfl⟩
  · exact ⟨_, rfl, rfl⟩
theorem sum_F {g : jGr} {k : Int32} (R : cF f pl hc) : ∃ r, jlim (fFo_readSum_g_l16 g o (jz a)) (k, hc) = some r ∧ Sum.elim (fun y => some y) (fun y => some y) r = some hc := by
  rw [jlim_1]
  show ∃ r, lim1 _ (fFo_readSum_g_l16_b g o (jz a) k hc) = some r ∧ _
  unfold fFo_readSum_g_l16_b
  split
  · rw [sRd_tsignF R, Option.bind_some, if_pos rfl]
    dsimp only
    rw [sRd_tsignF R, Option.bind_some, if_pos rfl]
    exact ⟨_, rfl, rfl⟩
  · exact ⟨_, rfl, rfl⟩
theorem lt1600 {k : Nat} (hk : k ≤ 1600) : jz (k : Int) < 1600 ↔ k < 1600 := by
  rw [show (1600 : Int32) = jz 1600 from rfl, jz_lt (by omega) (by omega) (by omega) (by omega)]
  omega
theorem jk1 (k : Nat) : jz (k : Int) + 1 = jz ((k + 1 : Nat) : Int) := by rw [show (1 : Int32) = jz 1 from rfl, jz_add]; rfl
theorem prod_loop {K : Nat} (ih : xPartL dd v n T o md b K a) (ha : 0 ≤ a ∧ a ≤ 6) (hw : xbp W b) (hh : xhd (fun x => x ≠ 3 ∧ x ≠ 4) W) (hb : b ≤ W.length) {s0 : Nat} {L0 : List Int} : ∀ (M s : Nat), n - s < M → ∀ (k : Nat) (e : Int) (l C π : List Int) (hc hm : jH), k ≤ s → xS dd n T o md b a W e s (L0 ++ l) C π hc hm → (∀ x ∈ π, x = 3 ∨ x = 4) → jseg (pm a + 1) l → (∀ x ∈ l, xst md x) → s0 < s → ∃ r hc', jlim (fFo_readProduct_g_l8 (fFo_grp K) o (jz a)) (jz k, hc) = some r ∧ Sum.elim (fun y => some y) (fun y => some y) r = some hc' ∧ eFr (xc o) hc hc' ∧ (xBad n T o hc' hm (kA v hm) ∨ xGood dd v n T o md b a W s0 L0 (pm a + 1) (fun π s' => (∀ x ∈ π, x = 3 ∨ x = 4) ∧ ¬ (s' < n ∧ T s' = 42) ∧ ¬ (s' < n ∧ T s' = 47)) hc' hm (kA v hm)) := by
  intro M
  induction M with
  | zero => intro s h; omega
  | succ M ihM =>
    intro s hM k e l C π hc hm hk S hp hj hx hs
    have S0 := S
    obtain ⟨R, O, R', O', rl, hl, -⟩ := S0
    have me := mR_e R'
    have ho := O.2.2.2.2
    have done : ∀ r, jlim (fFo_readProduct_g_l8 (fFo_grp K) o (jz a)) (jz k, hc) = some r → Sum.elim (fun y => some y) (fun y => some y) r = some hc → ¬ (s < n ∧ T s = 42) → ¬ (s < n ∧ T s = 47) → ∃ r hc', jlim (fFo_readProduct_g_l8 (fFo_grp K) o (jz a)) (jz k, hc) = some r ∧ Sum.elim (fun y => some y) (fun y => some y) r = some hc' ∧ eFr (xc o) hc hc' ∧ (xBad n T o hc' hm (kA v hm) ∨ xGood dd v n T o md b a W s0 L0 (pm a + 1) (fun π s' => (∀ x ∈ π, x = 3 ∨ x = 4) ∧ ¬ (s' < n ∧ T s' = 42) ∧ ¬ (s' < n ∧ T s' = 47)) hc' hm (kA v hm)) := by
      intro r h1 h2 n1 n2
      exact ⟨r, hc, h1, h2, eFr_refl _ _, Or.inr ⟨e, s, l, C, π, hm, rfl, S, ⟨hp, n1, n2⟩, hs, hj, hx, eFr_refl _ _⟩⟩
    obtain ⟨ta1, ta2⟩ := sRd_tsign (c := 42) R (by omega) rfl rfl me.2.1
    obtain ⟨tb1, tb2⟩ := sRd_tsign (c := 47) R (by omega) rfl rfl me.2.1
    by_cases k6 : k < 1600
    · have go : ∀ (x st : Int) (hc1 : jH), ((x = 3 ∧ st = -13 ∧ s < n ∧ T s = 42) ∨ (x = 4 ∧ st = -14 ∧ s < n ∧ T s = 47)) → cR n T e (xSk n T (s + 1)) hc1 → eFr x6 hc hc1 → lim1 (fFo_readProduct_g_l8 (fFo_grp K) o (jz a)) (fFo_readProduct_g_l8_b (fFo_grp K) o (jz a) (jz k) hc) = Option.bind (fFo_grp K 5 o (jz a) 0 hc1) (fun z7 => Option.bind (fFo_add o (jz st) z7) (fun z8 => jlim (fFo_readProduct_g_l8 (fFo_grp K) o (jz a)) (jz k + 1, z8))) → ∃ r hc', jlim (fFo_readProduct_g_l8 (fFo_grp K) o (jz a)) (jz k, hc) = some r ∧ Sum.elim (fun y => some y) (fun y => some y) r = some hc' ∧ eFr (xc o) hc hc' ∧ (xBad n T o hc' hm (kA v hm) ∨ xGood dd v n T o md b a W s0 L0 (pm a + 1) (fun π s' => (∀ x ∈ π, x = 3 ∨ x = 4) ∧ ¬ (s' < n ∧ T s' = 42) ∧ ¬ (s' < n ∧ T s' = 47)) hc' hm (kA v hm)) := by
        intro x st hc1 hxs R1 f1 hl1
        have sgk := xSk_ge (n := n) (T := T) (s := s + 1)
        have c0 : s < n := by rcases hxs with ⟨-, -, q, -⟩ | ⟨-, -, q, -⟩ <;> exact q
        have xcd : jcode st = x := by rcases hxs with ⟨rfl, rfl, -⟩ | ⟨rfl, rfl, -⟩ <;> rfl
        have xx : x = 3 ∨ x = 4 := by rcases hxs with ⟨q, -⟩ | ⟨q, -⟩ <;> omega
        have sst : -19 ≤ st ∧ st ≤ -11 := by rcases hxs with ⟨-, q, -⟩ | ⟨-, q, -⟩ <;> omega
        have sst2 : -17 < st := by rcases hxs with ⟨-, q, -⟩ | ⟨-, q, -⟩ <;> omega
        have hx2 : (x = 3 ∧ s < n ∧ T s = 42) ∨ (x = 4 ∧ s < n ∧ T s = 47) := by
          rcases hxs with ⟨q, -, r⟩ | ⟨q, -, r⟩
          · exact Or.inl ⟨q, r⟩
          · exact Or.inr ⟨q, r⟩
        obtain ⟨h1, k1, k2, k3, k4⟩ := kG_mul (v := v) (x := x) R' O' hp hw hh hx2 hb (by omega)
        have S1 : xS dd n T o md b a (x :: W) e (xSk n T (s + 1)) (L0 ++ l) (C ++ π) [] hc1 h1 := xS_mk R1 (cO_6 O f1) k2 k3 rl (by simp only [List.length_cons, List.length_append]; omega) (by simp only [List.length_cons]; omega)
        obtain ⟨hc2, g1, g2, g3⟩ := ih _ _ _ _ _ _ _ S1
        rcases g3 with ⟨f', pl', h5, b1, b2, b3, b4, b5⟩ | ⟨e5, s5, l5, C5, π5, h5, d1, d2, d3, d4, d5, d6, d7⟩
        · obtain ⟨hc3, u1, u2, u3⟩ := sFo_addF b2 (jz st)
          have R3 := cF_a b1 u3 ho
          obtain ⟨r, r1, r2⟩ := prod_F (o := o) (a := a) (g := fFo_grp K) (k := jz k + 1) R3
          refine ⟨r, hc3, ?_, r2, eFr_trans (xc_6 f1) (eFr_trans g2 (xc_a u3)), Or.inl ⟨f', pl', h5, R3, u2, by rw [k1, b3], b4, xgF_tr k4 b5⟩⟩
          rw [jlim_1]
          show lim1 _ (fFo_readProduct_g_l8_b (fFo_grp K) o (jz a) (jz k) hc) = _
          rw [hl1, g1, Option.bind_some, u1, Option.bind_some, r1]
        · obtain ⟨u1, u2, u3, u4, u5, u6, u7⟩ := d2
          simp only [List.length_cons] at u6
          have me5 := mR_e u3
          have ul : (L0 ++ l ++ l5).length < 1600 := by
            have := u5.1
            rw [List.length_append (as := C5)] at this
            omega
          obtain ⟨hc3, t1, t2, t3⟩ := sFo_add (x := st) u2 ul
          have lf : L0 ++ l ++ l5 ++ [st] = L0 ++ (l ++ (l5 ++ [st])) := by simp only [List.append_assoc]
          rw [lf] at t2
          have d3' : π5 = [] := d3
          subst d3'
          rw [List.append_nil] at u5
          have S3 : xS dd n T o md b a W e5 s5 (L0 ++ (l ++ (l5 ++ [st]))) C5 [x] hc3 h5 := ⟨cR_a u1 t3 ho, t2, u3, u4, by rw [← lf]; exact xRel_add u5 (Or.inl xcd.symm), by simp only [List.length_singleton, List.length_nil] at u6 ⊢; omega, hb⟩
          have j3 : jseg (pm a + 1) (l ++ (l5 ++ [st])) := jseg_m (jseg_join hj d5 sst) (by omega)
          obtain ⟨r, hc4, w1, w2, w3, w4⟩ := ihM s5 (by omega) (k + 1) e5 (l ++ (l5 ++ [st])) C5 [x] hc3 h5 (by omega) S3 (fun z hz => by have := List.mem_singleton.mp hz; omega) j3 (fun z hz => by
            rcases List.mem_append.mp hz with hz | hz
            · exact hx z hz
            · rcases List.mem_append.mp hz with hz | hz
              · exact d6 z hz
              · have := List.mem_singleton.mp hz
                unfold xst
                intro _
                omega) (by omega)
          refine ⟨r, hc4, ?_, w2, eFr_trans (xc_6 f1) (eFr_trans g2 (eFr_trans (xc_a t3) w3)), ?_⟩
          · rw [jlim_1]
            show lim1 _ (fFo_readProduct_g_l8_b (fFo_grp K) o (jz a) (jz k) hc) = _
            rw [hl1, g1, Option.bind_some, t1, Option.bind_some, jk1, w1]
          · have kk : kA v hm = kA v h5 := by rw [k1, d1]
            have ff : eFr xg hm h5 := eFr_trans k4 d7
            rcases w4 with ⟨f', pl', h7, b1, b2, b3, b4, b5⟩ | ⟨e7, s7, l7, C7, π7, h7, y1, y2, y3, y4, y5, y6, y7⟩
            · exact Or.inl ⟨f', pl', h7, b1, b2, by rw [kk, b3], b4, xgF_tr ff b5⟩
            · exact Or.inr ⟨e7, s7, l7, C7, π7, h7, by rw [kk, y1], y2, y3, y4, y5, y6, eFr_trans ff y7⟩
      by_cases ca : s < n ∧ T s = 42
      · obtain ⟨hc1, a1, a2, a3⟩ := ta2 ca
        refine go 3 (-13) hc1 (Or.inl ⟨rfl, rfl, ca⟩) a2 a3 ?_
        unfold fFo_readProduct_g_l8_b
        rw [if_pos ((lt1600 (by omega)).mpr k6), lim1_bind, show fRd_takesSign 42 hc = _ from a1, Option.bind_some, if_neg (show ¬ (1 : Int32) = 0 by decide), lim1_bind]
        congr 1
        funext z7
        rw [lim1_bind]
        rfl
      · by_cases cb : s < n ∧ T s = 47
        · obtain ⟨hc1, a1, a2, a3⟩ := tb2 cb
          refine go 4 (-14) hc1 (Or.inr ⟨rfl, rfl, cb⟩) a2 a3 ?_
          unfold fFo_readProduct_g_l8_b
          rw [if_pos ((lt1600 (by omega)).mpr k6), lim1_bind, show fRd_takesSign 42 hc = _ from ta1 ca, Option.bind_some, if_pos rfl]
          dsimp only
          rw [lim1_bind, show fRd_takesSign 47 hc = _ from a1, Option.bind_some, if_neg (show ¬ (1 : Int32) = 0 by decide), lim1_bind]
          congr 1
          funext z7
          rw [lim1_bind]
          rfl
        · refine done (.inl hc) ?_ rfl ca cb
          rw [jlim_1]
          show lim1 _ (fFo_readProduct_g_l8_b (fFo_grp K) o (jz a) (jz k) hc) = _
          unfold fFo_readProduct_g_l8_b
          rw [if_pos ((lt1600 (by omega)).mpr k6), show fRd_takesSign 42 hc = _ from ta1 ca, Option.bind_some, if_pos rfl]
          dsimp only
          rw [show fRd_takesSign 47 hc = _ from tb1 cb, Option.bind_some, if_pos rfl]
          rfl
    · refine done (.inr hc) ?_ rfl (fun t => by omega) (fun t => by omega)
      rw [jlim_1]
      show lim1 _ (fFo_readProduct_g_l8_b (fFo_grp K) o (jz a) (jz k) hc) = _
      unfold fFo_readProduct_g_l8_b
      rw [if_neg (fun t => k6 ((lt1600 (by omega)).mp t))]
      rfl
theorem sum_loop {K : Nat} (ih : xProdL dd v n T o md b K a) (ha : 0 ≤ a ∧ a ≤ 6) (hw : xbr W b) (hh : xhd (fun x => ¬ xop x) W) (hb : b ≤ W.length) {s0 : Nat} {L0 : List Int} : ∀ (M s : Nat), n - s < M → ∀ (k : Nat) (e : Int) (l C π : List Int) (hc hm : jH), k ≤ s → xS dd n T o md b a W e s (L0 ++ l) C π hc hm → (∀ x ∈ π, xop x) → ¬ (s < n ∧ T s = 42) → ¬ (s < n ∧ T s = 47) → jseg (pm a + 2) l → (∀ x ∈ l, xst md x) → s0 < s → ∃ r hc', jlim (fFo_readSum_g_l16 (fFo_grp K) o (jz a)) (jz k, hc) = some r ∧ Sum.elim (fun y => some y) (fun y => some y) r = some hc' ∧ eFr (xc o) hc hc' ∧ (xBad n T o hc' hm (kA v hm) ∨ xGood dd v n T o md b a W s0 L0 (pm a + 2) (fun π s' => (∀ x ∈ π, xop x) ∧ xno n T s') hc' hm (kA v hm)) := by
  intro M
  induction M with
  | zero => intro s h; omega
  | succ M ihM =>
    intro s hM k e l C π hc hm hk S hp nm nd hj hx hs
    have S0 := S
    obtain ⟨R, O, R', O', rl, hl, -⟩ := S0
    have me := mR_e R'
    have ho := O.2.2.2.2
    have done : ∀ r, jlim (fFo_readSum_g_l16 (fFo_grp K) o (jz a)) (jz k, hc) = some r → Sum.elim (fun y => some y) (fun y => some y) r = some hc → ¬ (s < n ∧ T s = 43) → ¬ (s < n ∧ T s = 45) → ∃ r hc', jlim (fFo_readSum_g_l16 (fFo_grp K) o (jz a)) (jz k, hc) = some r ∧ Sum.elim (fun y => some y) (fun y => some y) r = some hc' ∧ eFr (xc o) hc hc' ∧ (xBad n T o hc' hm (kA v hm) ∨ xGood dd v n T o md b a W s0 L0 (pm a + 2) (fun π s' => (∀ x ∈ π, xop x) ∧ xno n T s') hc' hm (kA v hm)) := by
      intro r h1 h2 n1 n2
      exact ⟨r, hc, h1, h2, eFr_refl _ _, Or.inr ⟨e, s, l, C, π, hm, rfl, S, ⟨hp, nm, nd, n1, n2⟩, hs, hj, hx, eFr_refl _ _⟩⟩
    obtain ⟨ta1, ta2⟩ := sRd_tsign (c := 43) R (by omega) rfl rfl me.2.1
    obtain ⟨tb1, tb2⟩ := sRd_tsign (c := 45) R (by omega) rfl rfl me.2.1
    by_cases k6 : k < 1600
    · have go : ∀ (x st : Int) (hc1 : jH), ((x = 1 ∧ st = -11 ∧ s < n ∧ T s = 43) ∨ (x = 2 ∧ st = -12 ∧ s < n ∧ T s = 45)) → cR n T e (xSk n T (s + 1)) hc1 → eFr x6 hc hc1 → lim1 (fFo_readSum_g_l16 (fFo_grp K) o (jz a)) (fFo_readSum_g_l16_b (fFo_grp K) o (jz a) (jz k) hc) = Option.bind (fFo_grp K 4 o (jz a) 0 hc1) (fun z7 => Option.bind (fFo_add o (jz st) z7) (fun z8 => jlim (fFo_readSum_g_l16 (fFo_grp K) o (jz a)) (jz k + 1, z8))) → ∃ r hc', jlim (fFo_readSum_g_l16 (fFo_grp K) o (jz a)) (jz k, hc) = some r ∧ Sum.elim (fun y => some y) (fun y => some y) r = some hc' ∧ eFr (xc o) hc hc' ∧ (xBad n T o hc' hm (kA v hm) ∨ xGood dd v n T o md b a W s0 L0 (pm a + 2) (fun π s' => (∀ x ∈ π, xop x) ∧ xno n T s') hc' hm (kA v hm)) := by
        intro x st hc1 hxs R1 f1 hl1
        have sgk := xSk_ge (n := n) (T := T) (s := s + 1)
        have c0 : s < n := by rcases hxs with ⟨-, -, q, -⟩ | ⟨-, -, q, -⟩ <;> exact q
        have xcd : jcode st = x := by rcases hxs with ⟨rfl, rfl, -⟩ | ⟨rfl, rfl, -⟩ <;> rfl
        have xx : x = 1 ∨ x = 2 := by rcases hxs with ⟨q, -⟩ | ⟨q, -⟩ <;> omega
        have sst : -19 ≤ st ∧ st ≤ -11 := by rcases hxs with ⟨-, q, -⟩ | ⟨-, q, -⟩ <;> omega
        have sst2 : -17 < st := by rcases hxs with ⟨-, q, -⟩ | ⟨-, q, -⟩ <;> omega
        have hx2 : (x = 1 ∧ s < n ∧ T s = 43) ∨ (x = 2 ∧ s < n ∧ T s = 45) := by
          rcases hxs with ⟨q, -, r⟩ | ⟨q, -, r⟩
          · exact Or.inl ⟨q, r⟩
          · exact Or.inr ⟨q, r⟩
        obtain ⟨h1, k1, k2, k3, k4⟩ := kG_add (v := v) (x := x) R' O' hp hw hh hx2 hb (by omega)
        have S1 : xS dd n T o md b a (x :: W) e (xSk n T (s + 1)) (L0 ++ l) (C ++ π) [] hc1 h1 := xS_mk R1 (cO_6 O f1) k2 k3 rl (by simp only [List.length_cons, List.length_append]; omega) (by simp only [List.length_cons]; omega)
        obtain ⟨hc2, g1, g2, g3⟩ := ih _ _ _ _ _ _ _ S1 (Or.inr ⟨by simp only [List.length_cons]; omega, fun y r h => by have := (List.cons.inj h).1; omega, W, hw, x, rfl⟩) (fun y r h => by have := (List.cons.inj h).1; omega)
        rcases g3 with ⟨f', pl', h5, b1, b2, b3, b4, b5⟩ | ⟨e5, s5, l5, C5, π5, h5, d1, d2, d3, d4, d5, d6, d7⟩
        · obtain ⟨hc3, u1, u2, u3⟩ := sFo_addF b2 (jz st)
          have R3 := cF_a b1 u3 ho
          obtain ⟨r, r1, r2⟩ := sum_F (o := o) (a := a) (g := fFo_grp K) (k := jz k + 1) R3
          refine ⟨r, hc3, ?_, r2, eFr_trans (xc_6 f1) (eFr_trans g2 (xc_a u3)), Or.inl ⟨f', pl', h5, R3, u2, by rw [k1, b3], b4, xgF_tr k4 b5⟩⟩
          rw [jlim_1]
          show lim1 _ (fFo_readSum_g_l16_b (fFo_grp K) o (jz a) (jz k) hc) = _
          rw [hl1, g1, Option.bind_some, u1, Option.bind_some, r1]
        · obtain ⟨u1, u2, u3, u4, u5, u6, u7⟩ := d2
          simp only [List.length_cons] at u6
          have me5 := mR_e u3
          have ul : (L0 ++ l ++ l5).length < 1600 := by
            have := u5.1
            rw [List.length_append (as := C5)] at this
            omega
          obtain ⟨hc3, t1, t2, t3⟩ := sFo_add (x := st) u2 ul
          have lf : L0 ++ l ++ l5 ++ [st] = L0 ++ (l ++ (l5 ++ [st])) := by simp only [List.append_assoc]
          rw [lf] at t2
          obtain ⟨d31, d32, d33⟩ := d3
          have S3 : xS dd n T o md b a W e5 s5 (L0 ++ (l ++ (l5 ++ [st]))) C5 (π5 ++ [x]) hc3 h5 := ⟨cR_a u1 t3 ho, t2, u3, by rw [List.append_assoc]; exact u4, by rw [← lf, ← List.append_assoc]; exact xRel_add u5 (Or.inl xcd.symm), by simp only [List.length_append, List.length_singleton]; omega, hb⟩
          have j3 : jseg (pm a + 2) (l ++ (l5 ++ [st])) := jseg_m (jseg_join hj d5 sst) (by omega)
          obtain ⟨r, hc4, w1, w2, w3, w4⟩ := ihM s5 (by omega) (k + 1) e5 (l ++ (l5 ++ [st])) C5 (π5 ++ [x]) hc3 h5 (by omega) S3 (fun z hz => by
            rcases List.mem_append.mp hz with hz | hz
            · have := d31 z hz
              unfold xop
              omega
            · have := List.mem_singleton.mp hz
              unfold xop
              omega) d32 d33 j3 (fun z hz => by
            rcases List.mem_append.mp hz with hz | hz
            · exact hx z hz
            · rcases List.mem_append.mp hz with hz | hz
              · exact d6 z hz
              · have := List.mem_singleton.mp hz
                unfold xst
                intro _
                omega) (by omega)
          refine ⟨r, hc4, ?_, w2, eFr_trans (xc_6 f1) (eFr_trans g2 (eFr_trans (xc_a t3) w3)), ?_⟩
          · rw [jlim_1]
            show lim1 _ (fFo_readSum_g_l16_b (fFo_grp K) o (jz a) (jz k) hc) = _
            rw [hl1, g1, Option.bind_some, t1, Option.bind_some, jk1, w1]
          · have kk : kA v hm = kA v h5 := by rw [k1, d1]
            have ff : eFr xg hm h5 := eFr_trans k4 d7
            rcases w4 with ⟨f', pl', h7, b1, b2, b3, b4, b5⟩ | ⟨e7, s7, l7, C7, π7, h7, y1, y2, y3, y4, y5, y6, y7⟩
            · exact Or.inl ⟨f', pl', h7, b1, b2, by rw [kk, b3], b4, xgF_tr ff b5⟩
            · exact Or.inr ⟨e7, s7, l7, C7, π7, h7, by rw [kk, y1], y2, y3, y4, y5, y6, eFr_trans ff y7⟩
      by_cases ca : s < n ∧ T s = 43
      · obtain ⟨hc1, a1, a2, a3⟩ := ta2 ca
        refine go 1 (-11) hc1 (Or.inl ⟨rfl, rfl, ca⟩) a2 a3 ?_
        unfold fFo_readSum_g_l16_b
        rw [if_pos ((lt1600 (by omega)).mpr k6), lim1_bind, show fRd_takesSign 43 hc = _ from a1, Option.bind_some, if_neg (show ¬ (1 : Int32) = 0 by decide), lim1_bind]
        congr 1
        funext z7
        rw [lim1_bind]
        rfl
      · by_cases cb : s < n ∧ T s = 45
        · obtain ⟨hc1, a1, a2, a3⟩ := tb2 cb
          refine go 2 (-12) hc1 (Or.inr ⟨rfl, rfl, cb⟩) a2 a3 ?_
          unfold fFo_readSum_g_l16_b
          rw [if_pos ((lt1600 (by omega)).mpr k6), lim1_bind, show fRd_takesSign 43 hc = _ from ta1 ca, Option.bind_some, if_pos rfl]
          dsimp only
          rw [lim1_bind, show fRd_takesSign 45 hc = _ from a1, Option.bind_some, if_neg (show ¬ (1 : Int32) = 0 by decide), lim1_bind]
          congr 1
          funext z7
          rw [lim1_bind]
          rfl
        · refine done (.inl hc) ?_ rfl ca cb
          rw [jlim_1]
          show lim1 _ (fFo_readSum_g_l16_b (fFo_grp K) o (jz a) (jz k) hc) = _
          unfold fFo_readSum_g_l16_b
          rw [if_pos ((lt1600 (by omega)).mpr k6), show fRd_takesSign 43 hc = _ from ta1 ca, Option.bind_some, if_pos rfl]
          dsimp only
          rw [show fRd_takesSign 45 hc = _ from tb1 cb, Option.bind_some, if_pos rfl]
          rfl
    · refine done (.inr hc) ?_ rfl (fun t => by omega) (fun t => by omega)
      rw [jlim_1]
      show lim1 _ (fFo_readSum_g_l16_b (fFo_grp K) o (jz a) (jz k) hc) = _
      unfold fFo_readSum_g_l16_b
      rw [if_neg (fun t => k6 ((lt1600 (by omega)).mp t))]
      rfl
theorem xhd_34 (h : xhd (fun x => ¬ xop x) W) : xhd (fun x => x ≠ 3 ∧ x ≠ 4) W := fun x r hw => by
  have := h x r hw
  unfold xop at this
  omega
theorem xProd_of {K : Nat} (ih : xPartL dd v n T o md b K a) (ha : 0 ≤ a ∧ a ≤ 6) : xProdL dd v n T o md b (K + 1) a := by
  intro W e s L C hc hm S hw hh
  have hb := S.2.2.2.2.2.2
  show ∃ hc', fFo_readProduct_g (fFo_grp K) o (jz a) hc = some hc' ∧ _
  obtain ⟨hc1, g1, g2, g3⟩ := ih _ _ _ _ _ _ _ S
  unfold fFo_readProduct_g
  rw [g1, Option.bind_some]
  rcases g3 with ⟨f', pl', h5, b1, b2, b3, b4, b5⟩ | ⟨e5, s5, l5, C5, π5, h5, d1, d2, d3, d4, d5, d6, d7⟩
  · obtain ⟨r, r1, r2⟩ := prod_F (o := o) (a := a) (g := fFo_grp K) (k := 0) b1
    exact ⟨hc1, by rw [r1, Option.bind_some]; exact r2, g2, Or.inl ⟨f', pl', h5, b1, b2, b3, b4, b5⟩⟩
  · have d3' : π5 = [] := d3
    subst d3'
    obtain ⟨r, hc4, w1, w2, w3, w4⟩ := prod_loop ih ha hw hh hb (s0 := s) (L0 := L) (n - s5 + 1) s5 (by omega) 0 e5 l5 C5 [] hc1 h5 (by omega) d2 (fun x hx => by cases hx) (jseg_m d5 (by omega)) d6 d4
    have w1' : jlim (fFo_readProduct_g_l8 (fFo_grp K) o (jz a)) (0, hc1) = some r := w1
    refine ⟨hc4, by rw [w1', Option.bind_some]; exact w2, eFr_trans g2 w3, ?_⟩
    rcases w4 with ⟨f', pl', h7, b1, b2, b3, b4, b5⟩ | ⟨e7, s7, l7, C7, π7, h7, y1, y2, y3, y4, y5, y6, y7⟩
    · exact Or.inl ⟨f', pl', h7, b1, b2, by rw [d1, b3], b4, xgF_tr d7 b5⟩
    · exact Or.inr ⟨e7, s7, l7, C7, π7, h7, by rw [d1, y1], y2, y3, y4, y5, y6, eFr_trans d7 y7⟩
theorem xSum_of {K : Nat} (ih : xProdL dd v n T o md b K a) (ha : 0 ≤ a ∧ a ≤ 6) : xSumL dd v n T o md b (K + 1) a := by
  intro W e s L C hc hm S hw hh
  have hb := S.2.2.2.2.2.2
  show ∃ hc', fFo_readSum_g (fFo_grp K) o (jz a) hc = some hc' ∧ _
  obtain ⟨hc1, g1, g2, g3⟩ := ih _ _ _ _ _ _ _ S (Or.inl hw) (xhd_34 hh)
  have ff : fRd_failed hc = 0 := by
    unfold fRd_failed
    rw [S.1.2.2.2.2.2.2.2.1, if_pos (show jz 0 = 0 from rfl)]
  unfold fFo_readSum_g
  rw [ff, if_pos rfl, g1, Option.bind_some]
  rcases g3 with ⟨f', pl', h5, b1, b2, b3, b4, b5⟩ | ⟨e5, s5, l5, C5, π5, h5, d1, d2, ⟨d31, d32, d33⟩, d4, d5, d6, d7⟩
  · obtain ⟨r, r1, r2⟩ := sum_F (o := o) (a := a) (g := fFo_grp K) (k := 0) b1
    exact ⟨hc1, by rw [r1, Option.bind_some]; exact r2, g2, Or.inl ⟨f', pl', h5, b1, b2, b3, b4, b5⟩⟩
  · obtain ⟨r, hc4, w1, w2, w3, w4⟩ := sum_loop ih ha hw hh hb (s0 := s) (L0 := L) (n - s5 + 1) s5 (by omega) 0 e5 l5 C5 π5 hc1 h5 (by omega) d2 (fun x hx => by have := d31 x hx; unfold xop; omega) d32 d33 (jseg_m d5 (by omega)) d6 d4
    have w1' : jlim (fFo_readSum_g_l16 (fFo_grp K) o (jz a)) (0, hc1) = some r := w1
    refine ⟨hc4, by rw [w1', Option.bind_some]; exact w2, eFr_trans g2 w3, ?_⟩
    rcases w4 with ⟨f', pl', h7, b1, b2, b3, b4, b5⟩ | ⟨e7, s7, l7, C7, π7, h7, y1, y2, y3, y4, y5, y6, y7⟩
    · exact Or.inl ⟨f', pl', h7, b1, b2, by rw [d1, b3], b4, xgF_tr d7 b5⟩
    · exact Or.inr ⟨e7, s7, l7, C7, π7, h7, by rw [d1, y1], y2, y3, y4, y5, y6, eFr_trans d7 y7⟩
/-- PART and SUM at every depth -/
theorem xSum_all : ∀ m : Nat, m ≤ 6 → (∀ K : Nat, 4 * m + 2 ≤ K → xPartL dd v n T o md b K (6 - (m : Int))) ∧ (∀ K : Nat, 4 * m + 4 ≤ K → xSumL dd v n T o md b K (6 - (m : Int))) := by
  intro m
  induction m with
  | zero =>
    intro _
    have p : ∀ K : Nat, 4 * 0 + 2 ≤ K → xPartL dd v n T o md b K (6 - ((0 : Nat) : Int)) := by
      intro K hK
      obtain ⟨K', rfl⟩ : ∃ K', K = K' + 2 := ⟨K - 2, by omega⟩
      exact xPart_of (by omega) (fun h => by omega)
    refine ⟨p, fun K hK => ?_⟩
    obtain ⟨K', rfl⟩ : ∃ K', K = K' + 2 := ⟨K - 2, by omega⟩
    exact xSum_of (xProd_of (p K' (by omega)) (by omega)) (by omega)
  | succ m ih =>
    intro hm6
    obtain ⟨i1, i2⟩ := ih (by omega)
    have e1 : 6 - ((m + 1 : Nat) : Int) + 1 = 6 - (m : Int) := by omega
    have p : ∀ K : Nat, 4 * (m + 1) + 2 ≤ K → xPartL dd v n T o md b K (6 - ((m + 1 : Nat) : Int)) := by
      intro K hK
      obtain ⟨K', rfl⟩ : ∃ K', K = K' + 2 := ⟨K - 2, by omega⟩
      refine xPart_of (by omega) (fun _ => ?_)
      rw [e1]
      exact ⟨i2 _ (by omega), i2 _ (by omega), i1 _ (by omega)⟩
    refine ⟨p, fun K hK => ?_⟩
    obtain ⟨K', rfl⟩ : ∃ K', K = K' + 2 := ⟨K - 2, by omega⟩
    exact xSum_of (xProd_of (p K' (by omega)) (by omega)) (by omega)
end XY
