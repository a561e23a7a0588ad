/-! Calls: worth, would, offence, best, leave, guest -/
/-- the set of most worth of those below n, none of them in v -/
def eBs (D S : jD) (L : List Int) (g v : Nat) : Nat → Nat
  | 0 => 0
  | n + 1 => if (n &&& v = 0 ∧ eCan D S g n = true) ∧ (eWo D S L g (eBs D S L g v n) < eWo D S L g n ∨ (eWo D S L g n = eWo D S L g (eBs D S L g v n) ∧ jpc n < jpc (eBs D S L g v n))) then n else eBs D S L g v n
section EV
variable {p d g : Nat} {D S : jD} {L : List Int} {h : jH}
theorem eBs_le (v : Nat) : ∀ n, eBs D S L g v n ≤ n := by
  intro n
  induction n with
  | zero => exact Nat.le_refl _
  | succ n ih => unfold eBs; split <;> omega
theorem eBs_1 (v : Nat) : eBs D S L g v 1 = 0 := by
  have := eBs_le (D := D) (S := S) (L := L) (g := g) v 0
  show (if _ then 0 else eBs D S L g v 0) = 0
  split
  · rfl
  · omega
theorem eCan_dj {s : Nat} (e : eCan D S g s = true) : s &&& eAsk S g = 0 := by
  unfold eCan at e
  rw [Bool.and_eq_true] at e
  exact of_decide_eq_true e.1
theorem eBs_dj (v : Nat) : ∀ n, eBs D S L g v n &&& eAsk S g = 0 := by
  intro n
  induction n with
  | zero => exact Nat.zero_and _
  | succ n ih =>
    unfold eBs
    split
    · rename_i c; exact eCan_dj c.1.2
    · exact ih
theorem eZ (i v : Nat) (hi : i < 256) : ((jz i &&& jz v) = 0) ↔ i &&& v = 0 := by
  have := Nat.and_le_left (n := i) (m := v)
  rw [jbit_and, show (0 : Int32) = jz 0 from rfl, jz_eq (by omega) (by omega) (by omega) (by omega)]
  omega
theorem sCh_findBest {v : Nat} (hpd : iPD p d) (b : bV g D) (c : cV p g D h) (bs : bS g S) (cs : cS 11 S h) (l : jLt p L h) : ∃ h', fCh_findBest p (jz v) h = some (jz (eBs D S L g v (2 ^ g)), h') ∧ eFr eQC h h' ∧ h'.2 96 1 = jw (eWo D S L g (eBs D S L g v (2 ^ g))) := by
  have b0 := b.1
  have hN := two8 b.1
  have hN1 : 1 ≤ 2 ^ g := Nat.one_le_two_pow
  have hpd2 := hpd
  unfold iPD at hpd2
  obtain ⟨h1, e1, f1, r1⟩ := sPy_weigh hpd b c bs cs l
  obtain ⟨h2, e2, f2⟩ := sPy_worthWith (s := 0) hpd b (eQC_c hpd f1 c) bs (eQC_s f1 cs) r1 (by omega)
  have f2' : eFr eQC h1 h2 := eFr_mono f2 (fun o k hk => by unfold eQC; omega)
  have hl := jlim_cnt (step := fCh_findBest_l23 p (jz v)) (fun k (x : Int32 × jH) => (x.1, jz k, x.2)) (fun k x => x.1 = jz (eBs D S L g v k) ∧ eFr eQC h x.2 ∧ (∀ k, k < g → x.2.1 83 k = jz (eCd D S L k)) ∧ x.2.2 96 1 = jw (eWo D S L g (eBs D S L g v k))) (fun x => x.1 = jz (eBs D S L g v (2 ^ g)) ∧ eFr eQC h x.2 ∧ x.2.2 96 1 = jw (eWo D S L g (eBs D S L g v (2 ^ g)))) (2 ^ g) (2 ^ g - 1) 1 (by omega) (jz 0, jhL h2 96 1 (jw (eWo D S L g 0))) ⟨by rw [eBs_1]; rfl, eFr_L (eFr_trans f1 f2') (by unfold eQC; omega) _, fun k hk => by rw [jhL_1, f2.1 _ _ (by omega)]; exact r1 k hk, by rw [eBs_1]; rfl⟩ ?_ ?_
  · obtain ⟨x, e3, r0, r2, r3⟩ := hl
    refine ⟨x.2, ?_, r2, r3⟩
    rw [← r0]
    have e3' : jlim (fCh_findBest_l23 p (jz v)) (0, 1, jhL h2 96 1 (jw (eWo D S L g 0))) = some x := e3
    have e2' : fPy_worthWith p 0 h1 = some (jw (eWo D S L g 0), h2) := e2
    unfold fCh_findBest
    rw [e1, Option.bind_some, e2', Option.bind_some]
    simp only []
    rw [e3', Option.bind_some]
  · rintro i ⟨v0, x⟩ hi1 hi ⟨q0, q1, q2, q3⟩
    simp only at q0 q1 q2 q3
    subst q0
    have cx := eQC_c hpd q1 c
    have csx := eQC_s q1 cs
    have hA := sPn_allSets b cx
    have w1 := sPy_canAsk (s := i) b cx bs csx hi
    obtain ⟨y, w2, fy⟩ := sPy_worthWith (s := i) hpd b cx bs csx q2 hi
    have ble := eBs_le (D := D) (S := S) (L := L) (g := g) v i
    have w3 := sIn_bitCount (show i < 256 by omega)
    have w4 := sIn_bitCount (show eBs D S L g v i < 256 by omega)
    have y1 : y.2 96 1 = jw (eWo D S L g (eBs D S L g v i)) := by rw [fy.2 _ _ (by omega)]; exact q3
    have fy' : eFr eQC x y := eFr_mono fy (fun o k hk => by unfold eQC; omega)
    have y2 : ∀ k, k < g → y.1 83 k = jz (eCd D S L k) := fun k hk => by rw [fy.1 _ _ (by omega)]; exact q2 k hk
    have es : eBs D S L g v (i + 1) = if (i &&& v = 0 ∧ eCan D S g i = true) ∧ (eWo D S L g (eBs D S L g v i) < eWo D S L g i ∨ (eWo D S L g i = eWo D S L g (eBs D S L g v i) ∧ jpc i < jpc (eBs D S L g v i))) then i else eBs D S L g v i := rfl
    have b1 := eWo_b (S := S) (L := L) (s := i) b
    have b2 := eWo_b (S := S) (L := L) (s := eBs D S L g v i) b
    have p1 := jpc_b i
    have p2 := jpc_b (eBs D S L g v i)
    have ek : jz (i : Int) + 1 = jz ((i + 1 : Nat) : Int) := by rw [show (1 : Int32) = jz 1 from rfl, jz_add]; rfl
    have il : jz (i : Int) < jz ((2 ^ g : Nat) : Int) := by rw [jz_lt (by omega) (by omega) (by omega) (by omega)]; omega
    have z := eZ i v (by omega)
    have ltp : jz (jpc i : Int) < jz (jpc (eBs D S L g v i) : Int) ↔ jpc i < jpc (eBs D S L g v i) := by rw [jz_lt (by omega) (by omega) (by omega) (by omega)]; omega
    have ltw : jw (eWo D S L g (eBs D S L g v i)) < jw (eWo D S L g i) ↔ eWo D S L g (eBs D S L g v i) < eWo D S L g i := by rw [jw_lt (by omega) (by omega) (by omega) (by omega)]
    have eqw : jw (eWo D S L g i) = jw (eWo D S L g (eBs D S L g v i)) ↔ eWo D S L g i = eWo D S L g (eBs D S L g v i) := by rw [jw_eq (by omega) (by omega) (by omega) (by omega)]
    generalize hr : eBs D S L g v i = r at *
    show ∃ x' : Int32 × jH, fCh_findBest_l23_b p (jz v) (jz r) (jz i) x = _ ∧ _
    unfold fCh_findBest_l23_b
    rw [hA, if_pos il]
    by_cases g1 : i &&& v = 0
    · rw [if_pos (z.mpr g1), w1, Option.bind_some]
      by_cases g2 : eCan D S g i = true
      · rw [if_pos g2, if_neg (by decide), w2, Option.bind_some, w3, w4]
        unfold fCh_findBest_l23_j80 fCh_findBest_l23_j107 fCh_findBest_l23_j115
        simp only []
        rw [y1, ek]
        by_cases g3 : eWo D S L g r < eWo D S L g i
        · have er : eBs D S L g v (i + 1) = i := by rw [es, if_pos ⟨⟨g1, g2⟩, Or.inl g3⟩]
          refine ⟨(jz i, jhL y 96 1 (jw (eWo D S L g i))), ?_, by rw [er], eFr_L (eFr_trans q1 fy') (by unfold eQC; omega) _, fun k hk => by rw [jhL_1]; exact y2 k hk, by rw [er]; rfl⟩
          simp only [if_pos (ltw.mpr g3), ite_self]
        · by_cases g4 : eWo D S L g i = eWo D S L g r
          · by_cases g5 : jpc i < jpc r
            · have er : eBs D S L g v (i + 1) = i := by rw [es, if_pos ⟨⟨g1, g2⟩, Or.inr ⟨g4, g5⟩⟩]
              refine ⟨(jz i, jhL y 96 1 (jw (eWo D S L g i))), ?_, by rw [er], eFr_L (eFr_trans q1 fy') (by unfold eQC; omega) _, fun k hk => by rw [jhL_1]; exact y2 k hk, by rw [er]; rfl⟩
              rw [if_pos (ltp.mpr g5), if_neg (fun t => g3 (ltw.mp t)), if_pos (eqw.mpr g4), if_neg (by decide)]
            · have er : eBs D S L g v (i + 1) = r := by rw [es, if_neg (fun t => t.2.elim g3 (fun u => g5 u.2))]
              refine ⟨(jz r, y), ?_, by rw [er], eFr_trans q1 fy', y2, by rw [er]; exact y1⟩
              rw [if_neg (fun t => g5 (ltp.mp t)), if_neg (fun t => g3 (ltw.mp t)), if_pos (eqw.mpr g4), if_pos True.intro]
          · have er : eBs D S L g v (i + 1) = r := by rw [es, if_neg (fun t => t.2.elim g3 (fun u => g4 u.1))]
            refine ⟨(jz r, y), ?_, by rw [er], eFr_trans q1 fy', y2, by rw [er]; exact y1⟩
            simp only [if_neg (fun t => g3 (ltw.mp t)), if_neg (fun t => g4 (eqw.mp t)), ite_self]
      · have er : eBs D S L g v (i + 1) = r := by rw [es, if_neg (fun t => g2 t.1.2)]
        refine ⟨(jz r, x), ?_, by rw [er], q1, q2, by rw [er]; exact q3⟩
        rw [if_neg g2, if_pos (show jz 0 = 0 from rfl)]
        unfold fCh_findBest_l23_j115
        rw [ek]
    · have er : eBs D S L g v (i + 1) = r := by rw [es, if_neg (fun t => g1 t.1.1)]
      refine ⟨(jz r, x), ?_, by rw [er], q1, q2, by rw [er]; exact q3⟩
      rw [if_neg (fun t => g1 (z.mp t))]
      unfold fCh_findBest_l23_j115
      rw [ek]
  · rintro ⟨v0, x⟩ ⟨q0, q1, q2, q3⟩
    simp only at q0 q1 q3
    have hA := sPn_allSets b (eQC_c hpd q1 c)
    refine ⟨(v0, x), ?_, q0, q1, q3⟩
    show fCh_findBest_l23_b p (jz v) v0 (jz _) x = _
    unfold fCh_findBest_l23_b
    rw [hA, if_neg (by rw [jz_lt (by omega) (by omega) (by omega) (by omega)]; omega)]
theorem sM_bestBut {v : Nat} (hpd : iPD p d) (b : bV g D) (m : mV g D h) (bs : bS g S) (ms : mS S h) (l : jLt p L h) : ∃ h', fM_bestBut (jz v) h = some (jz (eBs D S L g v (2 ^ g)), h') ∧ eFr eQM h h' := by
  have b0 := b.1
  have hN := two8 b.1
  have hN1 : 1 ≤ 2 ^ g := Nat.one_le_two_pow
  obtain ⟨h1, e1, f1⟩ := sM_worthBy (s := 0) hpd b m bs ms l (by omega) (Nat.zero_and _)
  have hl := jlim_cnt (step := fM_bestBut_l11 (jz v)) (fun k (x : Int32 × Int64 × jH) => (x.1, x.2.1, jz k, x.2.2)) (fun k x => x.1 = jz (eBs D S L g v k) ∧ x.2.1 = jw (eWo D S L g (eBs D S L g v k)) ∧ eFr eQM h x.2.2) (fun x => x.1 = jz (eBs D S L g v (2 ^ g)) ∧ eFr eQM h x.2) (2 ^ g) (2 ^ g - 1) 1 (by omega) (jz 0, jw (eWo D S L g 0), h1) ⟨by rw [eBs_1]; rfl, by rw [eBs_1], f1⟩ ?_ ?_
  · obtain ⟨x, e3, r0, r2⟩ := hl
    refine ⟨x.2, ?_, r2⟩
    rw [← r0]
    have e3' : jlim (fM_bestBut_l11 (jz v)) (0, jw (eWo D S L g 0), 1, h1) = some x := e3
    have e1' : fM_worthBy 0 h = some (jw (eWo D S L g 0), h1) := e1
    unfold fM_bestBut
    rw [e1', Option.bind_some]
    simp only []
    rw [e3', Option.bind_some]
  · rintro i ⟨v0, u0, x⟩ hi1 hi ⟨q0, q3, q1⟩
    simp only at q0 q1 q3
    subst q0
    subst q3
    have mx := eQM_m q1 m
    have msx := eQM_ms q1 ms
    have lx := eQM_l hpd q1 l
    have hA := sM_allGuests b mx
    have w1 := sM_canSend (s := i) b mx bs msx hi
    have ble := eBs_le (D := D) (S := S) (L := L) (g := g) v i
    have es : eBs D S L g v (i + 1) = if (i &&& v = 0 ∧ eCan D S g i = true) ∧ (eWo D S L g (eBs D S L g v i) < eWo D S L g i ∨ (eWo D S L g i = eWo D S L g (eBs D S L g v i) ∧ jpc i < jpc (eBs D S L g v i))) then i else eBs D S L g v i := rfl
    have b1 := eWo_b (S := S) (L := L) (s := i) b
    have b2 := eWo_b (S := S) (L := L) (s := eBs D S L g v i) b
    have p1 := jpc_b i
    have p2 := jpc_b (eBs D S L g v i)
    have ek : jz (i : Int) + 1 = jz ((i + 1 : Nat) : Int) := by rw [show (1 : Int32) = jz 1 from rfl, jz_add]; rfl
    have il : ¬ jz (((2 ^ g : Nat) : Int) - 1) < jz (i : Int) := by rw [jz_lt (by omega) (by omega) (by omega) (by omega)]; omega
    have z := eZ i v (by omega)
    have ltp : jz (jpc i : Int) < jz (jpc (eBs D S L g v i) : Int) ↔ jpc i < jpc (eBs D S L g v i) := by rw [jz_lt (by omega) (by omega) (by omega) (by omega)]; omega
    have ltw : jw (eWo D S L g i) < jw (eWo D S L g (eBs D S L g v i)) ↔ eWo D S L g i < eWo D S L g (eBs D S L g v i) := by rw [jw_lt (by omega) (by omega) (by omega) (by omega)]
    have eqw : jw (eWo D S L g i) = jw (eWo D S L g (eBs D S L g v i)) ↔ eWo D S L g i = eWo D S L g (eBs D S L g v i) := by rw [jw_eq (by omega) (by omega) (by omega) (by omega)]
    show ∃ x' : Int32 × Int64 × jH, fM_bestBut_l11_b (jz v) (jz (eBs D S L g v i)) (jw (eWo D S L g (eBs D S L g v i))) (jz i) x = _ ∧ _
    generalize hr : eBs D S L g v i = r at *
    unfold fM_bestBut_l11_b
    rw [hA, Option.bind_some, if_neg il]
    by_cases g1 : i &&& v = 0
    · rw [if_pos (z.mpr g1), w1, Option.bind_some]
      by_cases g2 : eCan D S g i = true
      · obtain ⟨y, w2, fy⟩ := sM_worthBy (s := i) hpd b mx bs msx lx hi (eCan_dj g2)
        rw [if_pos g2, if_neg (by decide), w2, Option.bind_some]
        simp only []
        have w3 := sM_bits (show i < 256 by omega) y
        have w4 := sM_bits (show r < 256 by omega) y
        unfold fM_bestBut_l11_j76 fM_bestBut_l11_j82
        rw [ek]
        by_cases g3 : eWo D S L g i < eWo D S L g r
        · have er : eBs D S L g v (i + 1) = r := by rw [es, if_neg (fun t => t.2.elim (by omega) (fun u => by omega))]
          refine ⟨(jz r, jw (eWo D S L g r), y), ?_, by rw [er], by rw [er], eFr_trans q1 fy⟩
          rw [if_pos (ltw.mpr g3)]
        · rw [if_neg (fun t => g3 (ltw.mp t))]
          by_cases g4 : eWo D S L g i = eWo D S L g r
          · rw [if_pos (eqw.mpr g4), w3, Option.bind_some, w4, Option.bind_some]
            by_cases g5 : jpc i < jpc r
            · have er : eBs D S L g v (i + 1) = i := by rw [es, if_pos ⟨⟨g1, g2⟩, Or.inr ⟨g4, g5⟩⟩]
              refine ⟨(jz i, jw (eWo D S L g i), y), ?_, by rw [er], by rw [er], eFr_trans q1 fy⟩
              rw [if_pos (ltp.mpr g5)]
            · have er : eBs D S L g v (i + 1) = r := by rw [es, if_neg (fun t => t.2.elim (by omega) (fun u => g5 u.2))]
              refine ⟨(jz r, jw (eWo D S L g r), y), ?_, by rw [er], by rw [er], eFr_trans q1 fy⟩
              rw [if_neg (fun t => g5 (ltp.mp t))]
          · rw [if_neg (fun t => g4 (eqw.mp t))]
            have er : eBs D S L g v (i + 1) = i := by rw [es, if_pos ⟨⟨g1, g2⟩, Or.inl (by omega)⟩]
            exact ⟨(jz i, jw (eWo D S L g i), y), rfl, by rw [er], by rw [er], eFr_trans q1 fy⟩
      · have er : eBs D S L g v (i + 1) = r := by rw [es, if_neg (fun t => g2 t.1.2)]
        refine ⟨(jz r, jw (eWo D S L g r), x), ?_, by rw [er], by rw [er], q1⟩
        rw [if_neg g2, if_pos (show jz 0 = 0 from rfl)]
        unfold fM_bestBut_l11_j82
        rw [ek]
    · have er : eBs D S L g v (i + 1) = r := by rw [es, if_neg (fun t => g1 t.1.1)]
      refine ⟨(jz r, jw (eWo D S L g r), x), ?_, by rw [er], by rw [er], q1⟩
      rw [if_neg (fun t => g1 (z.mp t))]
      unfold fM_bestBut_l11_j82
      rw [ek]
  · rintro ⟨v0, u0, x⟩ ⟨q0, q3, q1⟩
    simp only at q0 q1
    have hA := sM_allGuests b (eQM_m q1 m)
    refine ⟨(v0, x), ?_, q0, q1⟩
    show fM_bestBut_l11_b (jz v) v0 u0 (jz _) x = _
    unfold fM_bestBut_l11_b
    rw [hA, Option.bind_some, if_pos (by rw [jz_lt (by omega) (by omega) (by omega) (by omega)]; omega)]
end EV
theorem call_12 : jcal_12 jInv := by
  intro p d q h V
  have V0 := V
  obtain ⟨hpd, hq, v1, v2, v3, v4, v5, v6, g, D, S, L, ⟨b, c, m, w1, w2, w3, w4⟩, ⟨bs, cs, ms⟩, -⟩ := V
  have ct := c.2.2.1.1
  have mt := m.2.2.1.1
  rcases eTold b with ht | ht
  · rw [ht] at ct mt
    refine ⟨(-1000000000000000, h), ?_, (-1000000000000000, h), ?_, rfl, V0⟩
    · unfold fA_worth; rw [ct]; rfl
    · unfold fM_worth; rw [mt]; rfl
  rw [ht] at ct mt
  have hpd2 := hpd
  unfold iPD at hpd2
  obtain ⟨h1, e1, f1, r1⟩ := sPy_weigh hpd b c bs cs w1
  obtain ⟨h2, e2, f2⟩ := sPy_worthWith (s := 0) hpd b (eQC_c hpd f1 c) bs (eQC_s f1 cs) r1 (Nat.two_pow_pos g)
  have f3 : eFr eQC h h2 := eFr_trans f1 (eFr_mono f2 (fun o k hk => by unfold eQC; omega))
  have m2 := eQC_m f3 m
  obtain ⟨h3, e3, f4⟩ := sM_worthNow hpd b m2 bs (eQC_ms f3 ms) (eQC_l hpd f3 w1)
  rw [eWo_now] at e3
  have mt2 : h2.1 110 48 = jz 1 := by rw [m2.2.2.1.1, ht]
  have e2' : fPy_worthWith p 0 h1 = some (jw (eWo D S L g 0), h2) := e2
  refine ⟨(jw (eWo D S L g 0), h2), ?_, (jw (eWo D S L g 0), h3), ?_, rfl, jInv_q V0 f3 (eFr_mono f4 (fun _ _ => eQN_M))⟩
  · unfold fA_worth; rw [ct, if_neg (by decide), e1, Option.bind_some, e2', Option.bind_some]
  · unfold fM_worth; rw [mt2, if_neg (by decide), e3, Option.bind_some]
theorem call_13 : jcal_13 jInv := by
  intro p d q h a0 V
  have V0 := V
  obtain ⟨hpd, hq, v1, v2, v3, v4, v5, v6, g, D, S, L, ⟨b, c, m, w1, w2, w3, w4⟩, ⟨bs, cs, ms⟩, -⟩ := V
  have hb_a := jz_bd a0
  generalize ha_a : a0.toInt = a at hb_a
  obtain rfl : a0 = jz a := by rw [← ha_a]; exact jz_self a0
  clear ha_a
  have ct := c.2.2.1.1
  have mt := m.2.2.1.1
  rcases eTold b with ht | ht
  · rw [ht] at ct mt
    refine ⟨(-1000000000000000, h), ?_, (-1000000000000000, h), ?_, rfl, V0⟩
    · unfold fA_would; rw [ct]; rfl
    · unfold fM_would; rw [mt]; rfl
  rw [ht] at ct mt
  have hpd2 := hpd
  unfold iPD at hpd2
  by_cases ga : 0 ≤ a ∧ a < ((2 ^ g : Nat) : Int)
  · obtain ⟨s, rfl⟩ : ∃ s : Nat, a = s := ⟨a.toNat, by omega⟩
    have hs : s < 2 ^ g := by omega
    have ca := sPy_canAsk b c bs cs hs
    have cm := sM_canSend b m bs ms hs
    by_cases gc : eCan D S g s = true
    · rw [if_pos gc] at ca cm
      obtain ⟨h1, e1, f1, r1⟩ := sPy_weigh hpd b c bs cs w1
      obtain ⟨h2, e2, f2⟩ := sPy_worthWith (s := s) hpd b (eQC_c hpd f1 c) bs (eQC_s f1 cs) r1 hs
      have f3 : eFr eQC h h2 := eFr_trans f1 (eFr_mono f2 (fun o k hk => by unfold eQC; omega))
      have m2 := eQC_m f3 m
      have cm2 := sM_canSend b m2 bs (eQC_ms f3 ms) hs
      rw [if_pos gc] at cm2
      obtain ⟨h3, e3, f4⟩ := sM_worthBy hpd b m2 bs (eQC_ms f3 ms) (eQC_l hpd f3 w1) hs (eCan_dj gc)
      have mt2 : h2.1 110 48 = jz 1 := by rw [m2.2.2.1.1, ht]
      refine ⟨(jw (eWo D S L g s), h2), ?_, (jw (eWo D S L g s), h3), ?_, rfl, jInv_q V0 f3 f4⟩
      · unfold fA_would; rw [ct, if_neg (by decide), ca, Option.bind_some, if_neg (by decide), e1, Option.bind_some, e2, Option.bind_some]
      · unfold fM_would; rw [mt2, if_neg (by decide), cm2, Option.bind_some, if_neg (by decide), e3, Option.bind_some]
    · rw [if_neg gc] at ca cm
      refine ⟨(-1000000000000000, h), ?_, (-1000000000000000, h), ?_, rfl, V0⟩
      · unfold fA_would; rw [ct, if_neg (by decide), ca]; rfl
      · unfold fM_would; rw [mt, if_neg (by decide), cm]; rfl
  · have ca := sPy_canAsk_no b c bs cs hb_a.1 hb_a.2 ga
    have cm := sM_canSend_no b m bs ms hb_a.1 hb_a.2 ga
    refine ⟨(-1000000000000000, h), ?_, (-1000000000000000, h), ?_, rfl, V0⟩
    · unfold fA_would; rw [ct, if_neg (by decide), ca]; rfl
    · unfold fM_would; rw [mt, if_neg (by decide), cm]; rfl
theorem call_14 : jcal_14 jInv := by
  intro p d q h V
  have V0 := V
  obtain ⟨hpd, hq, v1, v2, v3, v4, v5, v6, g, D, S, L, ⟨b, c, m, w1, w2, w3, w4⟩, ⟨bs, cs, ms⟩, -⟩ := V
  have ct := c.2.2.1.1
  have mt := m.2.2.1.1
  rcases eTold b with ht | ht
  · rw [ht] at ct mt
    refine ⟨(-1, h), ?_, (-1, h), ?_, rfl, V0⟩
    · unfold fA_offence; rw [ct]; rfl
    · unfold fM_offence; rw [mt]; rfl
  rw [ht] at ct mt
  obtain ⟨h1, e1, f1, r1⟩ := sPy_weigh hpd b c bs cs w1
  have e2 := sPy_offWith (s := 0) b (eQC_c hpd f1 c) bs (eQC_s f1 cs) r1 (Nat.two_pow_pos g)
  have m2 := eQC_m f1 m
  obtain ⟨h3, e3, f4⟩ := sM_offAll hpd b m2 bs (eQC_ms f1 ms) (eQC_l hpd f1 w1)
  rw [eOf_now] at e3
  have mt2 : h1.1 110 48 = jz 1 := by rw [m2.2.2.1.1, ht]
  have e2' : fPy_offenceWith p 0 h1 = some (jz (eSum (eOfC D S L (eAsk S g ||| 0)) g)) := e2
  refine ⟨(jz (eSum (eOfC D S L (eAsk S g ||| 0)) g), h1), ?_, (jz (eSum (eOfC D S L (eAsk S g ||| 0)) g), h3), ?_, rfl, jInv_q V0 f1 (eFr_mono f4 (fun o k hk => by unfold eLf at hk; unfold eQM; omega))⟩
  · unfold fA_offence; rw [ct, if_neg (by decide), e1, Option.bind_some, e2', Option.bind_some]
  · unfold fM_offence; rw [mt2, if_neg (by decide), e3, Option.bind_some]
theorem call_15 : jcal_15 jInv := by
  intro p d q h V
  have V0 := V
  obtain ⟨hpd, hq, v1, v2, v3, v4, v5, v6, g, D, S, L, ⟨b, c, m, w1, w2, w3, w4⟩, ⟨bs, cs, ms⟩, -⟩ := V
  have ct := c.2.2.1.1
  have mt := m.2.2.1.1
  rcases eTold b with ht | ht
  · rw [ht] at ct mt
    refine ⟨(-1, h), ?_, (-1, h), ?_, rfl, V0⟩
    · unfold fA_best; rw [ct]; rfl
    · unfold fM_best; rw [mt]; rfl
  rw [ht] at ct mt
  obtain ⟨h1, e1, f1, -⟩ := sCh_findBest (v := 0) hpd b c bs cs w1
  have m2 := eQC_m f1 m
  obtain ⟨h3, e3, f4⟩ := sM_bestBut (v := 0) hpd b m2 bs (eQC_ms f1 ms) (eQC_l hpd f1 w1)
  have mt2 : h1.1 110 48 = jz 1 := by rw [m2.2.2.1.1, ht]
  have e1' : fCh_findBest p 0 h = some (jz (eBs D S L g 0 (2 ^ g)), h1) := e1
  have e3' : fM_bestBut 0 h1 = some (jz (eBs D S L g 0 (2 ^ g)), h3) := e3
  refine ⟨(jz (eBs D S L g 0 (2 ^ g)), h1), ?_, (jz (eBs D S L g 0 (2 ^ g)), h3), ?_, rfl, jInv_q V0 f1 f4⟩
  · unfold fA_best; rw [ct, if_neg (by decide), e1', Option.bind_some]
  · unfold fM_best; rw [mt2, if_neg (by decide), e3', Option.bind_some]
theorem call_17 : jcal_17 jInv := by
  intro p d q h a0 V
  have V0 := V
  obtain ⟨hpd, hq, v1, v2, v3, v4, v5, v6, g, D, S, L, ⟨b, c, m, w1, w2, w3, w4⟩, ⟨bs, cs, ms⟩, -⟩ := V
  have hb_a := jz_bd a0
  generalize ha_a : a0.toInt = a at hb_a
  obtain rfl : a0 = jz a := by rw [← ha_a]; exact jz_self a0
  clear ha_a
  have b0 := b.1
  have ca := sA_isGuest b c hb_a.1 hb_a.2
  have cm := sM_isGuest b m hb_a.1 hb_a.2
  by_cases ga : 0 ≤ a ∧ a < g
  · rw [if_pos ga] at ca cm
    obtain ⟨k, rfl⟩ : ∃ k : Nat, a = k := ⟨a.toNat, by omega⟩
    have hk : k < g := by omega
    have ia := sSd_isAsked bs cs (show k < 8 by omega)
    have im := sM_isAsked ms bs (show k < 8 by omega)
    by_cases g0 : S 1 k = 0
    · rw [if_pos g0] at ia im
      obtain ⟨h1, e1, f1, r1⟩ := sCh_findBest (v := 0) hpd b c bs cs w1
      obtain ⟨h2, e2, f2, r2⟩ := sCh_findBest (v := 2 ^ k) hpd b (eQC_c hpd f1 c) bs (eQC_s f1 cs) (eQC_l hpd f1 w1)
      have F := eFr_trans f1 f2
      have m2 := eQC_m F m
      have ms2 := eQC_ms F ms
      have lt2 := eQC_l hpd F w1
      have cm2 := sM_isGuest b m2 hb_a.1 hb_a.2
      rw [if_pos ga] at cm2
      have im2 := sM_isAsked ms2 bs (show k < 8 by omega)
      rw [if_pos g0] at im2
      have hN1 : 1 ≤ 2 ^ g := Nat.one_le_two_pow
      have lt : ∀ v, eBs D S L g v (2 ^ g) < 2 ^ g := by
        intro v
        have h1 := eBs_le (D := D) (S := S) (L := L) (g := g) v (2 ^ g - 1)
        rw [show 2 ^ g = (2 ^ g - 1) + 1 by omega]
        generalize 2 ^ g - 1 = N at *
        show (if _ then N else eBs D S L g v N) < N + 1
        split <;> omega
      obtain ⟨h3, e3, f3⟩ := sM_bestBut (v := 0) hpd b m2 bs ms2 lt2
      obtain ⟨h4, e4, f4⟩ := sM_worthBy hpd b (eQM_m f3 m2) bs (eQM_ms f3 ms2) (eQM_l hpd f3 lt2) (lt 0) (eBs_dj 0 _)
      have F4 := eFr_trans f3 f4
      obtain ⟨h5, e5, f5⟩ := sM_bestBut (v := 2 ^ k) hpd b (eQM_m F4 m2) bs (eQM_ms F4 ms2) (eQM_l hpd F4 lt2)
      have F5 := eFr_trans F4 f5
      obtain ⟨h6, e6, f6⟩ := sM_worthBy hpd b (eQM_m F5 m2) bs (eQM_ms F5 ms2) (eQM_l hpd F5 lt2) (lt (2 ^ k)) (eBs_dj (2 ^ k) _)
      have sh : ((1 : Int32) <<< (jz (k : Int) &&& 31)) = jz ((2 ^ k : Nat) : Int) := jbit_shl (show k < 20 by omega)
      have e1' : fCh_findBest p 0 h = some (jz (eBs D S L g 0 (2 ^ g)), h1) := e1
      have e3' : fM_bestBut 0 h2 = some (jz (eBs D S L g 0 (2 ^ g)), h3) := e3
      refine ⟨(jz (eWo D S L g (eBs D S L g 0 (2 ^ g)) - eWo D S L g (eBs D S L g (2 ^ k) (2 ^ g))), h2), ?_, (jz (eWo D S L g (eBs D S L g 0 (2 ^ g)) - eWo D S L g (eBs D S L g (2 ^ k) (2 ^ g))), h6), ?_, rfl, jInv_q V0 F (eFr_trans F5 f6)⟩
      · unfold fA_leave fCh_bestWorth
        rw [ca, if_neg (by decide), ia, Option.bind_some, if_pos (show jz 0 = 0 from rfl), e1', Option.bind_some, sh]
        simp only []
        rw [e2, Option.bind_some, r1]
        simp only []
        rw [r2, jw_sub, jwz]
      · unfold fM_leave
        rw [cm2, Option.bind_some, if_neg (by decide), im2, Option.bind_some, if_pos (show jz 0 = 0 from rfl), e3', Option.bind_some, sh]
        simp only []
        rw [e4, Option.bind_some]
        simp only []
        rw [e5, Option.bind_some]
        simp only []
        rw [e6, Option.bind_some]
        simp only []
        rw [jw_sub, jwz]
    · rw [if_neg g0] at ia im
      refine ⟨(-1, h), ?_, (-1, h), ?_, rfl, V0⟩
      · unfold fA_leave; rw [ca, if_neg (by decide), ia]; rfl
      · unfold fM_leave; rw [cm, Option.bind_some, if_neg (by decide), im]; rfl
  · rw [if_neg ga] at ca cm
    refine ⟨(-1, h), ?_, (-1, h), ?_, rfl, V0⟩
    · unfold fA_leave; rw [ca]; rfl
    · unfold fM_leave; rw [cm]; rfl
theorem call_6 : jcal_6 jInv := by
  intro p d q h a0 a1 V
  have V0 := V
  obtain ⟨hpd, hq, v1, v2, v3, v4, v5, v6, g, D, S, L, ⟨b, c, m, w1, w2, w3, w4⟩, ⟨bs, cs, ms⟩, -⟩ := V
  have hb_a := jz_bd a0
  generalize ha_a : a0.toInt = a at hb_a
  obtain rfl : a0 = jz a := by rw [← ha_a]; exact jz_self a0
  clear ha_a
  have hb_w := jz_bd a1
  generalize ha_w : a1.toInt = w at hb_w
  obtain rfl : a1 = jz w := by rw [← ha_w]; exact jz_self a1
  clear ha_w
  have b0 := b.1
  have ca := sA_isGuest b c hb_a.1 hb_a.2
  have cm := sM_isGuest b m hb_a.1 hb_a.2
  by_cases ga : 0 ≤ a ∧ a < g
  · rw [if_pos ga] at ca cm
    obtain ⟨k, rfl⟩ : ∃ k : Nat, a = k := ⟨a.toNat, by omega⟩
    have hk : k < g := by omega
    have c5 := c.2.2.2.1 k hk
    have m5 := m.2.2.2.1 k hk
    have cs1 := (cS11 cs).2.2 k (by omega)
    unfold fA_guest fM_guest fM_guest_j56
    rw [ca, if_neg (by decide)]
    by_cases e0 : w = 0
    · subst e0
      refine ⟨(jz (D 3 k), h), ?_, (jz (D 3 k), h), ?_, rfl, V0⟩
      · simp (disch := omega) only [Bool.false_eq_true, jz_lit, jz_neg, jz_nat, jz_add, jz_sub, jz_mul, jz_lt, jz_le, jz_eq, jz_ix, jin_z, jz_div, jzw, jwz, jw_lit, jw_neg, jw_add, jw_sub, jw_mul, jw_lt, jw_le, jw_eq, jw_div, Int.toNat_natCast, if_pos, if_neg, if_true, if_false, Option.bind_some, Int.natCast_add, Int.natCast_mul, Int.cast_ofNat_Int, Int.reduceToNat, Int.reduceAdd, Int.reduceMul, Int.reduceSub, Int.reduceNeg, Nat.reduceAdd, Nat.reduceMul, c5.1]
      · rw [cm]
        simp (disch := omega) only [Bool.false_eq_true, jz_lit, jz_neg, jz_nat, jz_add, jz_sub, jz_mul, jz_lt, jz_le, jz_eq, jz_ix, jin_z, jz_div, jzw, jwz, jw_lit, jw_neg, jw_add, jw_sub, jw_mul, jw_lt, jw_le, jw_eq, jw_div, Int.toNat_natCast, if_pos, if_neg, if_true, if_false, Option.bind_some, Int.natCast_add, Int.natCast_mul, Int.cast_ofNat_Int, Int.reduceToNat, Int.reduceAdd, Int.reduceMul, Int.reduceSub, Int.reduceNeg, Nat.reduceAdd, Nat.reduceMul]
        rw [show ((32 : Int) + 4 * (k : Int) + 0).toNat = 32 + 4 * k by omega, m5.1]
    by_cases e1 : w = 1
    · subst e1
      refine ⟨(jz (D 4 k), h), ?_, (jz (D 4 k), h), ?_, rfl, V0⟩
      · simp (disch := omega) only [Bool.false_eq_true, jz_lit, jz_neg, jz_nat, jz_add, jz_sub, jz_mul, jz_lt, jz_le, jz_eq, jz_ix, jin_z, jz_div, jzw, jwz, jw_lit, jw_neg, jw_add, jw_sub, jw_mul, jw_lt, jw_le, jw_eq, jw_div, Int.toNat_natCast, if_pos, if_neg, if_true, if_false, Option.bind_some, Int.natCast_add, Int.natCast_mul, Int.cast_ofNat_Int, Int.reduceToNat, Int.reduceAdd, Int.reduceMul, Int.reduceSub, Int.reduceNeg, Nat.reduceAdd, Nat.reduceMul, c5.2.1]
      · rw [cm]
        simp (disch := omega) only [Bool.false_eq_true, jz_lit, jz_neg, jz_nat, jz_add, jz_sub, jz_mul, jz_lt, jz_le, jz_eq, jz_ix, jin_z, jz_div, jzw, jwz, jw_lit, jw_neg, jw_add, jw_sub, jw_mul, jw_lt, jw_le, jw_eq, jw_div, Int.toNat_natCast, if_pos, if_neg, if_true, if_false, Option.bind_some, Int.natCast_add, Int.natCast_mul, Int.cast_ofNat_Int, Int.reduceToNat, Int.reduceAdd, Int.reduceMul, Int.reduceSub, Int.reduceNeg, Nat.reduceAdd, Nat.reduceMul]
        rw [show ((32 : Int) + 4 * (k : Int) + 1).toNat = 33 + 4 * k by omega, m5.2.1]
    by_cases e2 : w = 2
    · subst e2
      refine ⟨(jz (D 5 k), h), ?_, (jz (D 5 k), h), ?_, rfl, V0⟩
      · simp (disch := omega) only [Bool.false_eq_true, jz_lit, jz_neg, jz_nat, jz_add, jz_sub, jz_mul, jz_lt, jz_le, jz_eq, jz_ix, jin_z, jz_div, jzw, jwz, jw_lit, jw_neg, jw_add, jw_sub, jw_mul, jw_lt, jw_le, jw_eq, jw_div, Int.toNat_natCast, if_pos, if_neg, if_true, if_false, Option.bind_some, Int.natCast_add, Int.natCast_mul, Int.cast_ofNat_Int, Int.reduceToNat, Int.reduceAdd, Int.reduceMul, Int.reduceSub, Int.reduceNeg, Nat.reduceAdd, Nat.reduceMul, c5.2.2.1]
      · rw [cm]
        simp (disch := omega) only [Bool.false_eq_true, jz_lit, jz_neg, jz_nat, jz_add, jz_sub, jz_mul, jz_lt, jz_le, jz_eq, jz_ix, jin_z, jz_div, jzw, jwz, jw_lit, jw_neg, jw_add, jw_sub, jw_mul, jw_lt, jw_le, jw_eq, jw_div, Int.toNat_natCast, if_pos, if_neg, if_true, if_false, Option.bind_some, Int.natCast_add, Int.natCast_mul, Int.cast_ofNat_Int, Int.reduceToNat, Int.reduceAdd, Int.reduceMul, Int.reduceSub, Int.reduceNeg, Nat.reduceAdd, Nat.reduceMul]
        rw [show ((32 : Int) + 4 * (k : Int) + 2).toNat = 34 + 4 * k by omega, m5.2.2.1]
    by_cases e3 : w = 3
    · subst e3
      refine ⟨(jz (D 6 k), h), ?_, (jz (D 6 k), h), ?_, rfl, V0⟩
      · simp (disch := omega) only [Bool.false_eq_true, jz_lit, jz_neg, jz_nat, jz_add, jz_sub, jz_mul, jz_lt, jz_le, jz_eq, jz_ix, jin_z, jz_div, jzw, jwz, jw_lit, jw_neg, jw_add, jw_sub, jw_mul, jw_lt, jw_le, jw_eq, jw_div, Int.toNat_natCast, if_pos, if_neg, if_true, if_false, Option.bind_some, Int.natCast_add, Int.natCast_mul, Int.cast_ofNat_Int, Int.reduceToNat, Int.reduceAdd, Int.reduceMul, Int.reduceSub, Int.reduceNeg, Nat.reduceAdd, Nat.reduceMul, c5.2.2.2]
      · rw [cm]
        simp (disch := omega) only [Bool.false_eq_true, jz_lit, jz_neg, jz_nat, jz_add, jz_sub, jz_mul, jz_lt, jz_le, jz_eq, jz_ix, jin_z, jz_div, jzw, jwz, jw_lit, jw_neg, jw_add, jw_sub, jw_mul, jw_lt, jw_le, jw_eq, jw_div, Int.toNat_natCast, if_pos, if_neg, if_true, if_false, Option.bind_some, Int.natCast_add, Int.natCast_mul, Int.cast_ofNat_Int, Int.reduceToNat, Int.reduceAdd, Int.reduceMul, Int.reduceSub, Int.reduceNeg, Nat.reduceAdd, Nat.reduceMul]
        rw [show ((32 : Int) + 4 * (k : Int) + 3).toNat = 35 + 4 * k by omega, m5.2.2.2]
    by_cases e4 : w = 4
    · subst e4
      refine ⟨(jz (S 1 k), h), ?_, (jz (S 1 k), h), ?_, rfl, V0⟩
      · simp (disch := omega) only [Bool.false_eq_true, jz_lit, jz_neg, jz_nat, jz_add, jz_sub, jz_mul, jz_lt, jz_le, jz_eq, jz_ix, jin_z, jz_div, jzw, jwz, jw_lit, jw_neg, jw_add, jw_sub, jw_mul, jw_lt, jw_le, jw_eq, jw_div, Int.toNat_natCast, if_pos, if_neg, if_true, if_false, Option.bind_some, Int.natCast_add, Int.natCast_mul, Int.cast_ofNat_Int, Int.reduceToNat, Int.reduceAdd, Int.reduceMul, Int.reduceSub, Int.reduceNeg, Nat.reduceAdd, Nat.reduceMul, cs1]
      · rw [cm]
        simp (disch := omega) only [Bool.false_eq_true, jz_lit, jz_neg, jz_nat, jz_add, jz_sub, jz_mul, jz_lt, jz_le, jz_eq, jz_ix, jin_z, jz_div, jzw, jwz, jw_lit, jw_neg, jw_add, jw_sub, jw_mul, jw_lt, jw_le, jw_eq, jw_div, Int.toNat_natCast, if_pos, if_neg, if_true, if_false, Option.bind_some, Int.natCast_add, Int.natCast_mul, Int.cast_ofNat_Int, Int.reduceToNat, Int.reduceAdd, Int.reduceMul, Int.reduceSub, Int.reduceNeg, Nat.reduceAdd, Nat.reduceMul, sM_howOf ms (show k < 8 by omega)]
    by_cases e5 : w = 5
    · subst e5
      refine ⟨(jz (eTens D S k), h), ?_, (jz (eTens D S k), h), ?_, rfl, V0⟩
      · simp (disch := omega) only [Bool.false_eq_true, jz_lit, jz_neg, jz_nat, jz_add, jz_sub, jz_mul, jz_lt, jz_le, jz_eq, jz_ix, jin_z, jz_div, jzw, jwz, jw_lit, jw_neg, jw_add, jw_sub, jw_mul, jw_lt, jw_le, jw_eq, jw_div, Int.toNat_natCast, if_pos, if_neg, if_true, if_false, Option.bind_some, Int.natCast_add, Int.natCast_mul, Int.cast_ofNat_Int, Int.reduceToNat, Int.reduceAdd, Int.reduceMul, Int.reduceSub, Int.reduceNeg, Nat.reduceAdd, Nat.reduceMul, sPy_comesNow b c bs cs hk]
      · rw [cm]
        simp (disch := omega) only [Bool.false_eq_true, jz_lit, jz_neg, jz_nat, jz_add, jz_sub, jz_mul, jz_lt, jz_le, jz_eq, jz_ix, jin_z, jz_div, jzw, jwz, jw_lit, jw_neg, jw_add, jw_sub, jw_mul, jw_lt, jw_le, jw_eq, jw_div, Int.toNat_natCast, if_pos, if_neg, if_true, if_false, Option.bind_some, Int.natCast_add, Int.natCast_mul, Int.cast_ofNat_Int, Int.reduceToNat, Int.reduceAdd, Int.reduceMul, Int.reduceSub, Int.reduceNeg, Nat.reduceAdd, Nat.reduceMul, sM_tensOf b m bs ms hk]
    by_cases e6 : w = 6
    · subst e6
      obtain ⟨h1, r1, f1, r2⟩ := sPy_weigh hpd b c bs cs w1
      have al := eAsk_lt (S := S) b0
      have r3 := sPy_offOf b (eQC_c hpd f1 c) r2 hk al
      have m2 := eQC_m f1 m
      obtain ⟨h2, r4, f2⟩ := sM_offOf b m2 bs (eQC_ms f1 ms) (eQC_l hpd f1 w1) hk
      have cm2 := sM_isGuest b m2 hb_a.1 hb_a.2
      rw [if_pos ga] at cm2
      have r5 : eOfM D S L g k = eOfC D S L (eAsk S g) k := by
        have := eOf_sd (D := D) (S := S) (L := L) (g := g) (s := 0) (k := k) (Nat.two_pow_pos g) (Nat.zero_and _) hk
        rw [Nat.or_zero] at this
        exact this
      rw [r5] at r4
      have ask2 := sSd_ask b bs (eQC_s f1 cs)
      refine ⟨(jz (eOfC D S L (eAsk S g) k), h1), ?_, (jz (eOfC D S L (eAsk S g) k), h2), ?_, rfl, jInv_q V0 f1 (eFr_mono f2 (fun o k hk => by unfold eLf at hk; unfold eQM; omega))⟩
      · unfold fPy_offenceNow
        simp (disch := omega) only [Bool.false_eq_true, jz_lit, jz_neg, jz_nat, jz_add, jz_sub, jz_mul, jz_lt, jz_le, jz_eq, jz_ix, jin_z, jz_div, jzw, jwz, jw_lit, jw_neg, jw_add, jw_sub, jw_mul, jw_lt, jw_le, jw_eq, jw_div, Int.toNat_natCast, if_pos, if_neg, if_true, if_false, Option.bind_some, Int.natCast_add, Int.natCast_mul, Int.cast_ofNat_Int, Int.reduceToNat, Int.reduceAdd, Int.reduceMul, Int.reduceSub, Int.reduceNeg, Nat.reduceAdd, Nat.reduceMul, r1, ask2, r3]
      · rw [cm2]
        simp (disch := omega) only [Bool.false_eq_true, jz_lit, jz_neg, jz_nat, jz_add, jz_sub, jz_mul, jz_lt, jz_le, jz_eq, jz_ix, jin_z, jz_div, jzw, jwz, jw_lit, jw_neg, jw_add, jw_sub, jw_mul, jw_lt, jw_le, jw_eq, jw_div, Int.toNat_natCast, if_pos, if_neg, if_true, if_false, Option.bind_some, Int.natCast_add, Int.natCast_mul, Int.cast_ofNat_Int, Int.reduceToNat, Int.reduceAdd, Int.reduceMul, Int.reduceSub, Int.reduceNeg, Nat.reduceAdd, Nat.reduceMul, r4]
    by_cases e7 : w = 7
    · subst e7
      have ia := sSd_isAsked bs cs (show k < 8 by omega)
      have im := sM_isAsked ms bs (show k < 8 by omega)
      by_cases g0 : S 1 k = 0
      · refine ⟨(jz (-1), h), ?_, (jz (-1), h), ?_, rfl, V0⟩
        · simp (disch := omega) only [Bool.false_eq_true, jz_lit, jz_neg, jz_nat, jz_add, jz_sub, jz_mul, jz_lt, jz_le, jz_eq, jz_ix, jin_z, jz_div, jzw, jwz, jw_lit, jw_neg, jw_add, jw_sub, jw_mul, jw_lt, jw_le, jw_eq, jw_div, Int.toNat_natCast, if_pos, if_neg, if_true, if_false, Option.bind_some, Int.natCast_add, Int.natCast_mul, Int.cast_ofNat_Int, Int.reduceToNat, Int.reduceAdd, Int.reduceMul, Int.reduceSub, Int.reduceNeg, Nat.reduceAdd, Nat.reduceMul, ia, g0]
        · rw [cm]
          simp (disch := omega) only [Bool.false_eq_true, jz_lit, jz_neg, jz_nat, jz_add, jz_sub, jz_mul, jz_lt, jz_le, jz_eq, jz_ix, jin_z, jz_div, jzw, jwz, jw_lit, jw_neg, jw_add, jw_sub, jw_mul, jw_lt, jw_le, jw_eq, jw_div, Int.toNat_natCast, if_pos, if_neg, if_true, if_false, Option.bind_some, Int.natCast_add, Int.natCast_mul, Int.cast_ofNat_Int, Int.reduceToNat, Int.reduceAdd, Int.reduceMul, Int.reduceSub, Int.reduceNeg, Nat.reduceAdd, Nat.reduceMul, im, g0]
      · refine ⟨(jz (S 2 k), h), ?_, (jz (S 2 k), h), ?_, rfl, V0⟩
        · simp (disch := omega) only [Bool.false_eq_true, jz_lit, jz_neg, jz_nat, jz_add, jz_sub, jz_mul, jz_lt, jz_le, jz_eq, jz_ix, jin_z, jz_div, jzw, jwz, jw_lit, jw_neg, jw_add, jw_sub, jw_mul, jw_lt, jw_le, jw_eq, jw_div, Int.toNat_natCast, if_pos, if_neg, if_true, if_false, Option.bind_some, Int.natCast_add, Int.natCast_mul, Int.cast_ofNat_Int, Int.reduceToNat, Int.reduceAdd, Int.reduceMul, Int.reduceSub, Int.reduceNeg, Nat.reduceAdd, Nat.reduceMul, ia, g0, cs1]
        · rw [cm]
          simp (disch := omega) only [Bool.false_eq_true, jz_lit, jz_neg, jz_nat, jz_add, jz_sub, jz_mul, jz_lt, jz_le, jz_eq, jz_ix, jin_z, jz_div, jzw, jwz, jw_lit, jw_neg, jw_add, jw_sub, jw_mul, jw_lt, jw_le, jw_eq, jw_div, Int.toNat_natCast, if_pos, if_neg, if_true, if_false, Option.bind_some, Int.natCast_add, Int.natCast_mul, Int.cast_ofNat_Int, Int.reduceToNat, Int.reduceAdd, Int.reduceMul, Int.reduceSub, Int.reduceNeg, Nat.reduceAdd, Nat.reduceMul, im, g0, sM_weeksOf ms (show k < 8 by omega)]
    · refine ⟨(jz (-1), h), ?_, (jz (-1), h), ?_, rfl, V0⟩
      · simp (disch := omega) only [Bool.false_eq_true, jz_lit, jz_neg, jz_nat, jz_add, jz_sub, jz_mul, jz_lt, jz_le, jz_eq, jz_ix, jin_z, jz_div, jzw, jwz, jw_lit, jw_neg, jw_add, jw_sub, jw_mul, jw_lt, jw_le, jw_eq, jw_div, Int.toNat_natCast, if_pos, if_neg, if_true, if_false, Option.bind_some, Int.natCast_add, Int.natCast_mul, Int.cast_ofNat_Int, Int.reduceToNat, Int.reduceAdd, Int.reduceMul, Int.reduceSub, Int.reduceNeg, Nat.reduceAdd, Nat.reduceMul]
      · rw [cm]
        simp (disch := omega) only [Bool.false_eq_true, jz_lit, jz_neg, jz_nat, jz_add, jz_sub, jz_mul, jz_lt, jz_le, jz_eq, jz_ix, jin_z, jz_div, jzw, jwz, jw_lit, jw_neg, jw_add, jw_sub, jw_mul, jw_lt, jw_le, jw_eq, jw_div, Int.toNat_natCast, if_pos, if_neg, if_true, if_false, Option.bind_some, Int.natCast_add, Int.natCast_mul, Int.cast_ofNat_Int, Int.reduceToNat, Int.reduceAdd, Int.reduceMul, Int.reduceSub, Int.reduceNeg, Nat.reduceAdd, Nat.reduceMul]
  · rw [if_neg ga] at ca cm
    refine ⟨(-1, h), ?_, (-1, h), ?_, rfl, V0⟩
    · unfold fA_guest; rw [ca]; rfl
    · unfold fM_guest; rw [cm]; rfl
