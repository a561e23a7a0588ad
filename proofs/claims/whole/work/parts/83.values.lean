/-! the value of a question for a guest, on both sides -/
def eFar (D : jD) (g k : Nat) (v : Int) : Int := if 0 ≤ v ∧ v < g then (if (jfarN g (ePD D) v.toNat).testBit k then 1 else 0) else 0
section XV
variable {g p d : Nat} {D S : jD} {L C : List Int} {h : jH}
theorem eFar_b {k : Nat} (v : Int) : eFar D g k v = 0 ∨ eFar D g k v = 1 := by
  unfold eFar
  split
  · split
    · exact Or.inr rfl
    · exact Or.inl rfl
  · exact Or.inl rfl
theorem eFar_E {k : Nat} (b : bV g D) (bs : bS g S) (hk : k < g) : jEb (eFct D S k (S 2 k)) (eFar D g k) := by
  have b0 := b.1
  have b4 := bs.2.2.2.2 k (by omega)
  exact ⟨fun j => eFct_b b bs hk (by omega) j, fun v => eFar_b v⟩
theorem jfar_lt (b : bV g D) {k : Nat} (hk : k < 8) : jfarN g (ePD D) k < 256 := by
  have b5 := b.2.2.2.2
  have b0 := b.1
  exact xIt_lt b0 (fun j hj => by
    have := (b5 j hj).2.1
    have h2 : (2 : Int) ^ g ≤ 256 := by
      have : (2 : Nat) ^ g ≤ 2 ^ 8 := Nat.pow_le_pow_right (by omega) b0
      have h3 : ((2 ^ g : Nat) : Int) ≤ ((2 ^ 8 : Nat) : Int) := Int.ofNat_le.mpr this
      rw [Int.natCast_pow] at h3
      exact h3
    have h4 := (b5 j hj).1
    show (D 7 j).toNat < 256
    omega) hk 8
theorem fs8 (hpd : iPD p d) : (jsh (p + 8)).2 = 8 := by
  unfold iPD at hpd
  rcases hpd with ⟨rfl, -⟩ | ⟨rfl, -⟩ <;> rfl
theorem c_far {k : Nat} (hpd : iPD p d) (b : bV g D) (hk : k < g) (e0 : h.1 82 0 = jz k) (fr : ∀ j, j < 8 → h.1 (p + 8) j = jz (if j < g then ((jfarN g (ePD D) j : Nat) : Int) else 0)) (v : Int) (v1 : -1000000 ≤ v) (v2 : v ≤ 1000000) : fFo_turned (jz (-23)) (jz v) 82 (p + 8) h = some (jz (eFar D g k v)) := by
  have b0 := b.1
  have s8 := fs8 hpd
  have j0 : fFo_turned_j30 (jz v) 82 (p + 8) h = some (jz 0) := by
    unfold fFo_turned_j30 fFo_turned_j31
    rw [if_pos rfl]
    rfl
  unfold fFo_turned
  rw [if_neg (show ¬ jz (-23) = -22 by decide), s8]
  by_cases c1 : v < 0
  · rw [if_pos (by rw [show (0 : Int32) = jz 0 from rfl, jz_lt (by omega) (by omega) (by omega) (by omega)]; exact c1), j0]
    unfold eFar
    rw [if_neg (by omega)]
  · rw [if_neg (by rw [show (0 : Int32) = jz 0 from rfl, jz_lt (by omega) (by omega) (by omega) (by omega)]; exact c1)]
    by_cases c2 : v < 8
    · obtain ⟨m, rfl⟩ : ∃ m : Nat, v = m := ⟨v.toNat, by omega⟩
      have ix : (jz (m : Int)).toNatClampNeg = m := by rw [jz_ix (by omega) (by omega), Int.toNat_natCast]
      rw [if_pos (by rw [show Int32.ofNat 8 = jz 8 from rfl, jz_lt (by omega) (by omega) (by omega) (by omega)]; omega)]
      unfold fFo_turned_j31
      rw [if_neg (show ¬ (1 : Int32) = 0 by decide), s8, if_pos (by rw [jin_z (by omega) (by omega)]; omega), sFo_fact0 e0, Option.bind_some, ix, fr m (by omega)]
      by_cases c3 : m < g
      · rw [if_pos c3]
        have := jbit_at (jfar_lt b (k := m) (by omega)) (show k < 8 by omega)
        have this' : (jz ((jfarN g (ePD D) m : Nat) : Int) >>> (jz k &&& 31)) &&& 1 = _ := this
        rw [this']
        have ef : eFar D g k (m : Int) = if (jfarN g (ePD D) m).testBit k then 1 else 0 := by
          unfold eFar
          rw [if_pos ⟨by omega, by omega⟩, Int.toNat_natCast]
        rw [ef]
        split <;> rfl
      · rw [if_neg c3]
        have := jbit_at (m := 0) (by omega) (show k < 8 by omega)
        have this' : (jz 0 >>> (jz k &&& 31)) &&& 1 = _ := this
        rw [this', Nat.zero_testBit, if_neg (by decide)]
        unfold eFar
        rw [if_neg (by omega)]
    · rw [if_neg (by rw [show Int32.ofNat 8 = jz 8 from rfl, jz_lt (by omega) (by omega) (by omega) (by omega)]; exact c2), j0]
      unfold eFar
      rw [if_neg (by omega)]
/-- the class's value for a guest -/
theorem c_val {k : Nat} {v : Int} (hpd : iPD p d) (b : bV g D) (c : cV p g D h) (bs : bS g S) (cs : cS 11 S h) (fr : ∀ j, j < 8 → h.1 (p + 8) j = jz (if j < g then ((jfarN g (ePD D) j : Nat) : Int) else 0)) (O : cO 8 L 1 h) (hk : k < g) (e : jrun (eFct D S k (S 2 k)) (eFar D g k) L [] = some [v]) : ∃ h', fPy_valueFor p 8 (jz k) h = some (jz v, h') ∧ eFr (fun o _ => o = 82 ∨ o = 10) h h' := by
  have b0 := b.1
  have hpd' := hpd
  unfold iPD at hpd'
  obtain ⟨h1, q1, q2, q3⟩ := sPy_fill (w := S 2 k) hpd b c bs cs hk
  have ix : (jz (k : Int)).toNatClampNeg = k := by rw [jz_ix (by omega) (by omega), Int.toNat_natCast]
  have O1 : cO 8 L 1 h1 := cO_fr O (fun o k ho => q2.1 _ _ (by omega))
  obtain ⟨h2, p1, p2⟩ := sFo_value (o := 8) (v2 := p + 8) rfl (by omega) O1.2.2.2.1 O1.1 O1.2.1 (eFar_E b bs hk) q3 (fun i hi h3 f3 v v1 v2 => by
    refine c_far hpd b hk ?_ (fun j hj => ?_) v v1 v2
    · rw [f3.1 _ _ (by omega)]; exact q3 0 (by omega)
    · rw [f3.1 _ _ (by omega), q2.1 _ _ (by omega)]; exact fr j hj) e
  refine ⟨h2, ?_, eFr_trans (eFr_mono q2 (fun o k hk => Or.inl hk)) (eFr_mono p2 (fun o k hk => Or.inr hk))⟩
  unfold fPy_valueFor
  rw [if_neg (by rw [show (0 : Int32) = jz 0 from rfl, jz_lt (by omega) (by omega) (by omega) (by omega)]; omega), if_pos (by rw [show (8 : Int32) = jz 8 from rfl, jz_lt (by omega) (by omega) (by omega) (by omega)]; omega), if_pos (by rw [jin_z (by omega) (by omega)]; omega), ix, show h.1 (11 + 2) k = jz (S 2 k) from (cs.2.2 k (by omega)).2, q1, Option.bind_some, p1, Option.bind_some]
theorem m_part {k : Nat} {s : Int} (b : bV g D) (m : mV g D h) (bs : bS g S) (ms : mS S h) (hk : k < g) (hs : -7 ≤ s ∧ s < 0) : fM_qPartOf (jz (jcode s - 40)) (jz k) h = some (jw (eFct D S k (S 2 k) (-1 - s).toNat)) := by
  have b0 := b.1
  have b4 := bs.2.2.2.2 k (by omega)
  have b3 := b.2.2.2.1 k hk
  have b5 := eTens_b (S := S) b hk
  have k8 : k < 8 := by omega
  by_cases h4 : s ≤ -4 ∧ S 1 k ≠ 0
  · rw [sM_part b m bs ms hk h4.2 (by omega)]
    have : s = -4 ∨ s = -5 ∨ s = -6 ∨ s = -7 := by omega
    rcases this with rfl | rfl | rfl | rfl <;> rfl
  · have m3 := (m.2.2.2.1 k hk).2.2.2
    have u : ((35 : Int) + 4 * (k : Int)).toNat = 35 + 4 * k := by omega
    have : s = -1 ∨ s = -2 ∨ s = -3 ∨ s = -4 ∨ s = -5 ∨ s = -6 ∨ s = -7 := by omega
    unfold fM_qPartOf
    rcases this with rfl | rfl | rfl | rfl | rfl | rfl | rfl
    · rw [show jcode (-1) - 40 = 4 by decide]
      show _ = some (jw (k : Int))
      simp (disch := omega) only [Bool.false_eq_true, jz_lit, jz_neg, jz_nat, jz_add, jz_sub, jz_mul, jz_lt, jz_le, jz_eq, jz_ix, jin_z, jz_div, jzw, jwz, jw_lit, jw_neg, jw_add, jw_sub, jw_mul, jw_lt, jw_le, jw_eq, jw_div, Int.toNat_natCast, if_pos, if_neg, if_true, if_false, Option.bind_some, Int.natCast_add, Int.natCast_mul, Int.cast_ofNat_Int, Int.reduceToNat, Int.reduceAdd, Int.reduceMul, Int.reduceSub, Int.reduceNeg, Nat.reduceAdd, Nat.reduceMul]
    · rw [show jcode (-2) - 40 = 5 by decide]
      show _ = some (jw (S 1 k))
      simp (disch := omega) only [Bool.false_eq_true, jz_lit, jz_neg, jz_nat, jz_add, jz_sub, jz_mul, jz_lt, jz_le, jz_eq, jz_ix, jin_z, jz_div, jzw, jwz, jw_lit, jw_neg, jw_add, jw_sub, jw_mul, jw_lt, jw_le, jw_eq, jw_div, Int.toNat_natCast, if_pos, if_neg, if_true, if_false, Option.bind_some, Int.natCast_add, Int.natCast_mul, Int.cast_ofNat_Int, Int.reduceToNat, Int.reduceAdd, Int.reduceMul, Int.reduceSub, Int.reduceNeg, Nat.reduceAdd, Nat.reduceMul, sM_howOf ms k8]
    · rw [show jcode (-3) - 40 = 6 by decide]
      show _ = some (jw (if S 1 k = 0 then D 3 k else eTens D S k))
      by_cases z : S 1 k = 0
      · simp (disch := omega) only [Bool.false_eq_true, jz_lit, jz_neg, jz_nat, jz_add, jz_sub, jz_mul, jz_lt, jz_le, jz_eq, jz_ix, jin_z, jz_div, jzw, jwz, jw_lit, jw_neg, jw_add, jw_sub, jw_mul, jw_lt, jw_le, jw_eq, jw_div, Int.toNat_natCast, if_pos, if_neg, if_true, if_false, Option.bind_some, Int.natCast_add, Int.natCast_mul, Int.cast_ofNat_Int, Int.reduceToNat, Int.reduceAdd, Int.reduceMul, Int.reduceSub, Int.reduceNeg, Nat.reduceAdd, Nat.reduceMul, sM_isAsked ms bs k8, z, sM_toldOf b m hk]
      · simp (disch := omega) only [Bool.false_eq_true, jz_lit, jz_neg, jz_nat, jz_add, jz_sub, jz_mul, jz_lt, jz_le, jz_eq, jz_ix, jin_z, jz_div, jzw, jwz, jw_lit, jw_neg, jw_add, jw_sub, jw_mul, jw_lt, jw_le, jw_eq, jw_div, Int.toNat_natCast, if_pos, if_neg, if_true, if_false, Option.bind_some, Int.natCast_add, Int.natCast_mul, Int.cast_ofNat_Int, Int.reduceToNat, Int.reduceAdd, Int.reduceMul, Int.reduceSub, Int.reduceNeg, Nat.reduceAdd, Nat.reduceMul, sM_isAsked ms bs k8, z, sM_tensOf b m bs ms hk]
    · rw [show jcode (-4) - 40 = 2 by decide]
      show _ = some (jw (D 4 k))
      simp (disch := omega) only [Bool.false_eq_true, jz_lit, jz_neg, jz_nat, jz_add, jz_sub, jz_mul, jz_lt, jz_le, jz_eq, jz_ix, jin_z, jz_div, jzw, jwz, jw_lit, jw_neg, jw_add, jw_sub, jw_mul, jw_lt, jw_le, jw_eq, jw_div, Int.toNat_natCast, if_pos, if_neg, if_true, if_false, Option.bind_some, Int.natCast_add, Int.natCast_mul, Int.cast_ofNat_Int, Int.reduceToNat, Int.reduceAdd, Int.reduceMul, Int.reduceSub, Int.reduceNeg, Nat.reduceAdd, Nat.reduceMul, sM_joyOf b m hk]
    · rw [show jcode (-5) - 40 = 1 by decide]
      show _ = some (jw (D 6 k))
      simp (disch := omega) only [Bool.false_eq_true, jz_lit, jz_neg, jz_nat, jz_add, jz_sub, jz_mul, jz_lt, jz_le, jz_eq, jz_ix, jin_z, jz_div, jzw, jwz, jw_lit, jw_neg, jw_add, jw_sub, jw_mul, jw_lt, jw_le, jw_eq, jw_div, Int.toNat_natCast, if_pos, if_neg, if_true, if_false, Option.bind_some, Int.natCast_add, Int.natCast_mul, Int.cast_ofNat_Int, Int.reduceToNat, Int.reduceAdd, Int.reduceMul, Int.reduceSub, Int.reduceNeg, Nat.reduceAdd, Nat.reduceMul, u, m3]
    · rw [show jcode (-6) - 40 = 3 by decide]
      show _ = some (jw (D 5 k))
      simp (disch := omega) only [Bool.false_eq_true, jz_lit, jz_neg, jz_nat, jz_add, jz_sub, jz_mul, jz_lt, jz_le, jz_eq, jz_ix, jin_z, jz_div, jzw, jwz, jw_lit, jw_neg, jw_add, jw_sub, jw_mul, jw_lt, jw_le, jw_eq, jw_div, Int.toNat_natCast, if_pos, if_neg, if_true, if_false, Option.bind_some, Int.natCast_add, Int.natCast_mul, Int.cast_ofNat_Int, Int.reduceToNat, Int.reduceAdd, Int.reduceMul, Int.reduceSub, Int.reduceNeg, Nat.reduceAdd, Nat.reduceMul, sM_sizeOf b m hk]
    · have z : S 1 k = 0 := Classical.byContradiction (fun t => h4 ⟨by omega, t⟩)
      have z2 : S 2 k = 0 := b4.2.2.2.2.1 z
      rw [show jcode (-7) - 40 = 0 by decide]
      show _ = some (jw (S 2 k))
      simp (disch := omega) only [Bool.false_eq_true, jz_lit, jz_neg, jz_nat, jz_add, jz_sub, jz_mul, jz_lt, jz_le, jz_eq, jz_ix, jin_z, jz_div, jzw, jwz, jw_lit, jw_neg, jw_add, jw_sub, jw_mul, jw_lt, jw_le, jw_eq, jw_div, Int.toNat_natCast, if_pos, if_neg, if_true, if_false, Option.bind_some, Int.natCast_add, Int.natCast_mul, Int.cast_ofNat_Int, Int.reduceToNat, Int.reduceAdd, Int.reduceMul, Int.reduceSub, Int.reduceNeg, Nat.reduceAdd, Nat.reduceMul, sM_isAsked ms bs k8, z, z2]
/-- the reference's run over the codes -/
theorem m_run {k : Nat} {h0 : jH} {r : List Int} (b : bV g D) (m : mV g D h0) (bs : bS g S) (ms : mS S h0) (l : L.length ≤ 1600) (l2 : h0.1 110 80 = jz L.length) (l3 : ∀ j, j < L.length → h0.1 173 j = jz (C.getD j 0) ∧ xcode 1 (L.getD j 0) (C.getD j 0)) (hk : k < g) : ∀ (n i : Nat), i + n = L.length → ∀ (st : List Int) (h : jH), eFr eQS h0 h → eStm st h → jrun (eFct D S k (S 2 k)) (eFar D g k) (L.drop i) st = some r → ∃ h', jlim (fM_qTold_l7 (jz k)) (jz i, h) = some h' ∧ eStm r h' ∧ eFr eQS h0 h' := by
  have b0 := b.1
  have b4 := bs.2.2.2.2 k (by omega)
  have hE := eFar_E b bs hk
  intro n
  induction n with
  | zero =>
    intro i hi st h f K e
    have hi' : i = L.length := by omega
    subst hi'
    rw [List.drop_length] at e
    unfold jrun at e
    cases e
    refine ⟨h, ?_, K, f⟩
    have l2' : h.1 110 80 = jz L.length := by rw [f.1 _ _ (by unfold eQS; omega)]; exact l2
    rw [jlim_1]
    show lim1 _ (fM_qTold_l7_b (jz k) (jz L.length) h) = _
    unfold fM_qTold_l7_b
    rw [l2', if_neg (by rw [jz_lt (by omega) (by omega) (by omega) (by omega)]; omega)]
    rfl
  | succ n ih =>
    intro i hi st h f K e
    rw [eDrop (by omega)] at e
    obtain ⟨st', e1, e2⟩ := jrun_cons e
    have l2' : h.1 110 80 = jz L.length := by rw [f.1 _ _ (by unfold eQS; omega)]; exact l2
    obtain ⟨q1, q2⟩ := l3 i (by omega)
    have q1' : h.1 173 i = jz (C.getD i 0) := by rw [f.1 _ _ (by unfold eQS; omega)]; exact q1
    have m' : mV g D h := mV_fr (fun o k hk => f.1 o k (by unfold eQS; omega)) m
    have ms' : mS S h := mS_fr (fun k => f.1 _ k (by unfold eQS; omega)) ms
    obtain ⟨s, hs'⟩ : ∃ s, L.getD i 0 = s := ⟨_, rfl⟩
    obtain ⟨c, hc'⟩ : ∃ c, C.getD i 0 = c := ⟨_, rfl⟩
    rw [hs'] at e1 q2
    rw [hc'] at q1' q2
    have kl := K.1
    have ix : (jz (i : Int)).toNatClampNeg = i := by rw [jz_ix (by omega) (by omega), Int.toNat_natCast]
    have hd : fM_qTold_l7_b (jz k) (jz i) h = (if jz c < 1000 then (if jz c < 60 then (if jz c < 40 then (if jz c = 13 then Option.bind (fM_qPuts 1 h) (fun z7 => fM_qTold_l7_j162 (jz k) (jz i) z7) else (if jz c = 12 then (if jin ((h.1 110 86) - 1) 1700 then (if jin ((h.1 110 86) - 1) 1700 then fM_qTold_l7_j162 (jz k) (jz i) (jhL h 175 ((h.1 110 86) - 1).toNatClampNeg (1 - (h.2 175 ((h.1 110 86) - 1).toNatClampNeg))) else none) else none) else Option.bind (fM_qJoins (jz c) h) (fun z11 => fM_qTold_l7_j162 (jz k) (jz i) z11))) else Option.bind (fM_qPartOf (jz c - 40) (jz k) h) (fun z12 => Option.bind (fM_qPuts (fM_qClip z12) h) (fun z14 => fM_qTold_l7_j162 (jz k) (jz i) z14))) else (if jin ((h.1 110 86) - 1) 1700 then Option.bind (fM_qOf (jz c - 60) (h.2 175 ((h.1 110 86) - 1).toNatClampNeg) (jz k) h) (fun z16 => (if jin ((h.1 110 86) - 1) 1700 then fM_qTold_l7_j162 (jz k) (jz i) (jhL h 175 ((h.1 110 86) - 1).toNatClampNeg (fM_qClip z16)) else none)) else none)) else Option.bind (fM_qPuts ((jz c - 1000).toInt64) h) (fun z19 => fM_qTold_l7_j162 (jz k) (jz i) z19)) := by
      unfold fM_qTold_l7_b
      rw [l2', if_pos (by rw [jz_lt (by omega) (by omega) (by omega) (by omega)]; omega), if_pos (by rw [jin_z (by omega) (by omega)]; omega), ix, q1']
    have fin : ∀ h1, fM_qTold_l7_b (jz k) (jz i) h = fM_qTold_l7_j162 (jz k) (jz i) h1 → eStm st' h1 → eFr eQS h h1 → ∃ h', jlim (fM_qTold_l7 (jz k)) (jz i, h) = some h' ∧ eStm r h' ∧ eFr eQS h0 h' := by
      intro h1 e3 K1 f1
      obtain ⟨h2, e4, K2, f2⟩ := ih (i + 1) (by omega) st' h1 (eFr_trans f f1) K1 e2
      refine ⟨h2, ?_, K2, f2⟩
      rw [jlim_1]
      show lim1 _ (fM_qTold_l7_b (jz k) (jz i) h) = _
      rw [e3]
      unfold fM_qTold_l7_j162
      rw [jk1]
      exact e4
    unfold jsstep at e1
    by_cases c0 : 0 ≤ s
    · rw [if_pos c0] at e1
      by_cases c1 : st.length < 64 ∧ s ≤ 9999
      · rw [if_pos c1] at e1
        cases e1
        have P := sM_push (x := s) c1.1 K.2.2.1
        refine fin (ePsh st s h) ?_ (eStm_push K (by omega) c1.1) (ePsh_fr _ _ _)
        rcases q2 with q2 | ⟨-, rfl, rfl⟩
        · have jc : jcode s = 1000 + s := by unfold jcode; rw [if_pos c0]
          have u2 : (1000 + s - 1000) = s := by omega
          rw [hd, q2, jc]
          simp (disch := omega) only [jz_lit, jz_lt, if_neg, jz_sub, jzw, u2, P, Option.bind_some]
        · have P' : fM_qPuts 1 h = some (ePsh st 1 h) := P
          rw [hd, if_pos (by decide), if_pos (by decide), if_pos (by decide), if_pos (by decide), P', Option.bind_some]
      · rw [if_neg c1] at e1; cases e1
    rw [if_neg c0] at e1
    have jc : c = jcode s := by
      rcases q2 with q2 | ⟨-, q2, -⟩
      · exact q2
      · omega
    by_cases c1 : -7 ≤ s
    · rw [if_pos c1] at e1
      by_cases c2 : st.length < 64
      · rw [if_pos c2] at e1
        cases e1
        have hv := hE.1 (-1 - s).toNat
        have P := sM_push (x := eFct D S k (S 2 k) (-1 - s).toNat) c2 K.2.2.1
        have hp := m_part b m' bs ms' hk (s := s) (by omega)
        have jc2 : 40 ≤ jcode s ∧ jcode s ≤ 46 := by
          have : s = -1 ∨ s = -2 ∨ s = -3 ∨ s = -4 ∨ s = -5 ∨ s = -6 ∨ s = -7 := by omega
          rcases this with rfl | rfl | rfl | rfl | rfl | rfl | rfl <;> decide
        have cl := sM_clip (v := eFct D S k (S 2 k) (-1 - s).toNat) (by omega) (by omega)
        have jcl : jclip (eFct D S k (S 2 k) (-1 - s).toNat) = eFct D S k (S 2 k) (-1 - s).toNat := by
          unfold jclip
          rw [if_neg (by omega), if_neg (by omega)]
        rw [jcl] at cl
        refine fin (ePsh st (eFct D S k (S 2 k) (-1 - s).toNat) h) ?_ (eStm_push K (by omega) c2) (ePsh_fr _ _ _)
        have hp' : fM_qPartOf (jz (jcode s) - 40) (jz k) h = some (jw (eFct D S k (S 2 k) (-1 - s).toNat)) := by
          rw [show (40 : Int32) = jz 40 from rfl, jz_sub]
          exact hp
        rw [hd, jc, if_pos (by rw [show (1000 : Int32) = jz 1000 from rfl, jz_lt (by omega) (by omega) (by omega) (by omega)]; omega), if_pos (by rw [show (60 : Int32) = jz 60 from rfl, jz_lt (by omega) (by omega) (by omega) (by omega)]; omega), if_neg (by rw [show (40 : Int32) = jz 40 from rfl, jz_lt (by omega) (by omega) (by omega) (by omega)]; omega), hp', Option.bind_some, cl, P, Option.bind_some]
      · rw [if_neg c2] at e1; cases e1
    rw [if_neg c1] at e1
    have top : ∀ {v : Int} {r' : List Int}, st = v :: r' → h.1 110 86 - 1 = jz r'.length ∧ (jz (r'.length : Int)).toNatClampNeg = r'.length ∧ jin (jz (r'.length : Int)) 1700 ∧ h.2 175 r'.length = jw v ∧ (-1000000 ≤ v ∧ v ≤ 1000000) := by
      intro v r' hst
      subst hst
      have k3 := K.2.2.1
      simp only [List.length_cons] at k3 kl
      refine ⟨?_, ?_, ?_, eStm_top K, K.2.1 v (List.mem_cons_self ..)⟩
      · rw [k3, show (1 : Int32) = jz 1 from rfl, jz_sub]
        congr 1
        omega
      · rw [jz_ix (by omega) (by omega), Int.toNat_natCast]
      · rw [jin_z (by omega) (by omega)]; omega
    have put : ∀ {v x : Int} {r' : List Int}, st = v :: r' → (-1000000 ≤ x ∧ x ≤ 1000000) → eStm (x :: r') (jhL h 175 r'.length (jw x)) ∧ eFr eQS h (jhL h 175 r'.length (jw x)) := by
      intro v x r' hst hx
      subst hst
      obtain ⟨k1, k2, k3, k4⟩ := K
      simp only [List.length_cons] at k1 k3 k4
      refine ⟨⟨by simp only [List.length_cons]; omega, fun z hz => ?_, ?_, fun j hj => ?_⟩, eFr_L (eFr_refl _ _) (Or.inl rfl) _⟩
      · rcases List.mem_cons.mp hz with rfl | hz
        · exact hx
        · exact k2 z (List.mem_cons_of_mem _ hz)
      · simp only [List.length_cons]; exact k3
      · simp only [List.length_cons] at hj
        rw [jhL_2, eAt]
        by_cases z : j = r'.length
        · rw [if_pos ⟨rfl, z⟩, if_pos z]
        · rw [if_neg (fun t => z t.2), if_neg z]
          have := k4 j (by omega)
          rw [eAt, if_neg z] at this
          exact this
    by_cases c2 : s = -22
    · rw [if_pos c2] at e1
      rcases hst : st with _ | ⟨v, r'⟩
      · rw [hst] at e1; cases e1
      · rw [hst] at e1
        dsimp only at e1
        by_cases z : v = 0 ∨ v = 1
        · rw [if_pos z] at e1
          cases e1
          obtain ⟨t1, t2, t3, t4, t5⟩ := top hst
          obtain ⟨p1, p2⟩ := put (x := 1 - v) hst (by omega)
          refine fin _ ?_ p1 p2
          rw [hd, jc, c2, if_pos (by decide), if_pos (by decide), if_pos (by decide), if_neg (by decide), if_pos (by decide), t1, if_pos t3, if_pos t3, t2, t4, show (1 : Int64) = jw 1 from rfl, jw_sub]
        · rw [if_neg z] at e1; cases e1
    rw [if_neg c2] at e1
    by_cases c3 : s = -23
    · rw [if_pos c3] at e1
      rcases hst : st with _ | ⟨v, r'⟩
      · rw [hst] at e1; cases e1
      · rw [hst] at e1
        dsimp only at e1
        cases e1
        obtain ⟨t1, t2, t3, t4, t5⟩ := top hst
        have fb := eFar_b (D := D) (g := g) (k := k) v
        obtain ⟨p1, p2⟩ := put (x := eFar D g k v) hst (by omega)
        refine fin _ ?_ p1 p2
        have cl := sM_clip (v := eFar D g k v) (by omega) (by omega)
        have jcl : jclip (eFar D g k v) = eFar D g k v := by
          unfold jclip
          rw [if_neg (by omega), if_neg (by omega)]
        rw [jcl] at cl
        have of : fM_qOf (jz (jcode (-23)) - 60) (jw v) (jz k) h = some (jw (eFar D g k v)) := by
          unfold fM_qOf
          have gi : (jz (g : Int) - 1).toInt64 = jw ((g : Int) - 1) := by
            rw [show (1 : Int32) = jz 1 from rfl, jz_sub, jzw (by omega) (by omega)]
          rw [sM_guestMany m', Option.bind_some, gi, show (0 : Int64) = jw 0 from rfl, sM_isIn (by omega) (by omega) (by omega) (by omega) (by omega) (by omega)]
          unfold eFar
          by_cases w : 0 ≤ v ∧ v ≤ (g : Int) - 1
          · obtain ⟨m, rfl⟩ : ∃ m : Nat, v = m := ⟨v.toNat, by omega⟩
            have vi : (jw (m : Int)).toInt32 = jz (m : Int) := jwz _
            have fa := sM_farOf b m' (k := m) (by omega)
            have bt := jbit_at (jfar_lt b (k := m) (by omega)) (show k < 8 by omega)
            have bt' : (jz ((jfarN g (ePD D) m : Nat) : Int) >>> (jz k &&& 31)) &&& 1 = _ := bt
            rw [if_pos w, if_neg (show ¬ jz 1 = 0 by decide), vi, fa, Option.bind_some, bt', if_pos (show 0 ≤ (m : Int) ∧ (m : Int) < g by omega), Int.toNat_natCast]
            split <;> rfl
          · rw [if_neg w, if_pos (show jz 0 = 0 from rfl), if_neg (show ¬ (0 ≤ v ∧ v < g) by omega)]
        rw [hd, jc, c3, if_pos (by decide), if_neg (by decide), t1, if_pos t3]
        simp only [t2]
        rw [t4, of, Option.bind_some, if_pos t3, cl]
    rw [if_neg c3] at e1
    match st, K, e1, kl, fin with
    | [], _, e1, _, _ => cases e1
    | [_], _, e1, _, _ => cases e1
    | y :: x :: r', K, e1, kl, fin =>
      dsimp only at e1
      obtain ⟨v, e3, e4⟩ := Option.map_eq_some_iff.mp e1
      subst e4
      obtain ⟨h1, e5, K1, f1⟩ := sM_join K e3
      have rg := jjoin_r e3
      have jc2 : jcode s = -10 - s := by
        unfold jcode
        simp (disch := omega) only [if_neg]
      refine fin h1 ?_ K1 f1
      rw [hd, jc, jc2, if_pos (by rw [show (1000 : Int32) = jz 1000 from rfl, jz_lt (by omega) (by omega) (by omega) (by omega)]; omega), if_pos (by rw [show (60 : Int32) = jz 60 from rfl, jz_lt (by omega) (by omega) (by omega) (by omega)]; omega), if_pos (by rw [show (40 : Int32) = jz 40 from rfl, jz_lt (by omega) (by omega) (by omega) (by omega)]; omega), if_neg (by rw [show (13 : Int32) = jz 13 from rfl, jz_eq (by omega) (by omega) (by omega) (by omega)]; omega), if_neg (by rw [show (12 : Int32) = jz 12 from rfl, jz_eq (by omega) (by omega) (by omega) (by omega)]; omega), e5, Option.bind_some]
/-- the reference's value for a guest -/
theorem m_val {k : Nat} {v : Int} (b : bV g D) (m : mV g D h) (bs : bS g S) (ms : mS S h) (l : L.length ≤ 1600) (l2 : h.1 110 80 = jz L.length) (l3 : ∀ j, j < L.length → h.1 173 j = jz (C.getD j 0) ∧ xcode 1 (L.getD j 0) (C.getD j 0)) (hk : k < g) (e : jrun (eFct D S k (S 2 k)) (eFar D g k) L [] = some [v]) : ∃ h', fM_qTold (jz k) h = some (jw v, h') ∧ eFr eQS h h' ∧ -1000000 ≤ v ∧ v ≤ 1000000 := by
  obtain ⟨h1, hh1⟩ : ∃ h1, h1 = jhI h 110 86 (jz 0) := ⟨_, rfl⟩
  have f1 : eFr eQS h h1 := by rw [hh1]; exact eFr_I (S := eQS) (eFr_refl _ _) (Or.inr ⟨rfl, rfl⟩) _
  have K0 : eStm [] h1 := ⟨by simp, by simp, by rw [hh1]; rfl, by simp⟩
  obtain ⟨h2, e2, K2, f2⟩ := m_run (h0 := h1) (C := C) b (mV_fr (fun o k hk => f1.1 o k (by unfold eQS; omega)) m) bs (mS_fr (fun k => f1.1 _ k (by unfold eQS; omega)) ms) l (by rw [f1.1 _ _ (by unfold eQS; omega)]; exact l2) (fun j hj => by rw [f1.1 _ _ (by unfold eQS; omega)]; exact l3 j hj) hk L.length 0 (by omega) [] h1 (eFr_refl _ _) K0 e
  have tp : h2.2 175 0 = jw v := eStm_top K2
  have e2' : jlim (fM_qTold_l7 (jz k)) (0, h1) = some h2 := e2
  refine ⟨h2, ?_, eFr_trans f1 f2, K2.2.1 v (List.mem_cons_self ..)⟩
  unfold fM_qTold
  rw [show jhI h 110 86 0 = h1 from hh1.symm, e2', Option.bind_some, if_pos (by decide), show h2.2 175 (0 : Int32).toNatClampNeg = jw v from tp]
end XV
