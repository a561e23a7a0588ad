/-! the answer of a question, on both sides -/
def xtk (o k : Nat) : Prop := o = 175 ∨ (o = 110 ∧ (k = 86 ∨ k = 87 ∨ k = 88))
def xtc (o k : Nat) : Prop := o = 82 ∨ o = 10
def eAcc (kd v acc k f : Int) : Int := if kd = 0 then (if v = 1 ∧ acc = -1 then k else acc) else if kd = 1 then (if v = 1 then k else acc) else if kd = 2 then (if v = 1 then acc + 1 else acc) else if kd = 3 then acc + v else if kd = 4 then (if f = 1 ∨ acc < v then v else acc) else (if f = 1 ∨ v < acc then v else acc)
section XK
variable {g p d : Nat} {D S : jD} {L C : List Int} {h hc hm : jH} {V : Nat → Int}
theorem tk_0 {x : Int} (h87 : h.2 110 87 = jw x) : eFr xtk h (jhI h 110 88 0) ∧ (jhI h 110 88 0).1 110 88 = jz 0 ∧ (jhI h 110 88 0).2 110 87 = jw x :=
  ⟨eFr_I (S := xtk) (eFr_refl _ _) (Or.inr ⟨rfl, Or.inr (Or.inr rfl)⟩) _, rfl, h87⟩
theorem tk_1 (x : Int) : eFr xtk h (jhI (jhL h 110 87 (jw x)) 110 88 0) ∧ (jhI (jhL h 110 87 (jw x)) 110 88 0).1 110 88 = jz 0 ∧ (jhI (jhL h 110 87 (jw x)) 110 88 0).2 110 87 = jw x :=
  ⟨eFr_I (S := xtk) (eFr_L (S := xtk) (eFr_refl _ _) (Or.inr ⟨rfl, Or.inr (Or.inl rfl)⟩) _) (Or.inr ⟨rfl, Or.inr (Or.inr rfl)⟩) _, rfl, by show (jhL h 110 87 (jw x)).2 110 87 = _; rw [jhL_2, if_pos ⟨rfl, rfl⟩]⟩
theorem takes_ok {kd v acc k f : Int} (hk : 0 ≤ kd ∧ kd ≤ 5) (h87 : h.2 110 87 = jw acc) (h88 : h.1 110 88 = jz f) (hf : f = 0 ∨ f = 1) (ha : -1000000000 ≤ acc ∧ acc ≤ 1000000000) (hv : -1000000 ≤ v ∧ v ≤ 1000000) (hk2 : 0 ≤ k ∧ k ≤ 8) : eFr xtk h (fM_qTakes (jz kd) (jw v) (jz k) h) ∧ (fM_qTakes (jz kd) (jw v) (jz k) h).1 110 88 = jz 0 ∧ (fM_qTakes (jz kd) (jw v) (jz k) h).2 110 87 = jw (eAcc kd v acc k f) := by
  have v1 : jw v = 1 ↔ v = 1 := by rw [show (1 : Int64) = jw 1 from rfl, jw_eq (by omega) (by omega) (by omega) (by omega)]
  have a1 : jw acc = -1 ↔ acc = -1 := by rw [show (-1 : Int64) = jw (-1) from rfl, jw_eq (by omega) (by omega) (by omega) (by omega)]
  have ki : (jz k).toInt64 = jw k := jzw (by omega) (by omega)
  have f0 : jz f = 0 ↔ f = 0 := by rw [show (0 : Int32) = jz 0 from rfl, jz_eq (by omega) (by omega) (by omega) (by omega)]
  have l1 : jw acc < jw v ↔ acc < v := jw_lt (by omega) (by omega) (by omega) (by omega)
  have l2 : jw v < jw acc ↔ v < acc := jw_lt (by omega) (by omega) (by omega) (by omega)
  have n1 : ¬ (1 : Int32) = 0 := by decide
  have : kd = 0 ∨ kd = 1 ∨ kd = 2 ∨ kd = 3 ∨ kd = 4 ∨ kd = 5 := by omega
  rcases this with rfl | rfl | rfl | rfl | rfl | rfl
  · have j55 : ∀ x y, fM_qTakes_j55 (jz 0) (jw v) x y = jhI y 110 88 0 := fun x y => by
      unfold fM_qTakes_j55 fM_qTakes_j75 fM_qTakes_j90 fM_qTakes_j133
      rw [if_neg (show ¬ jz 0 = 2 by decide), if_neg (show ¬ jz 0 = 3 by decide), if_neg (show ¬ 3 < jz 0 by decide)]
    have j38 : ∀ x y, fM_qTakes_j38 (jz 0) (jw v) (jz k) x y = jhI y 110 88 0 := fun x y => by
      unfold fM_qTakes_j38
      rw [if_neg (show ¬ jz 0 = 1 by decide), j55]
    unfold fM_qTakes fM_qTakes_j15 fM_qTakes_j16 fM_qTakes_j48 eAcc
    rw [if_pos (show jz 0 < 3 by decide), if_pos (show jz 0 = 0 from rfl), if_pos (show jz 0 = 0 from rfl), if_pos rfl, if_neg n1, if_pos rfl, h87, ki, j38, j38, j55]
    by_cases c : v = 1
    · rw [if_pos (v1.mpr c)]
      by_cases c2 : acc = -1
      · rw [if_pos (a1.mpr c2), if_pos ⟨c, c2⟩]
        exact tk_1 k
      · rw [if_neg (fun t => c2 (a1.mp t)), if_neg (fun t => c2 t.2)]
        exact tk_0 h87
    · rw [if_neg (fun t => c (v1.mp t)), if_neg (fun t => c t.1)]
      exact tk_0 h87
  · have j55 : ∀ x y, fM_qTakes_j55 (jz 1) (jw v) x y = jhI y 110 88 0 := fun x y => by
      unfold fM_qTakes_j55 fM_qTakes_j75 fM_qTakes_j90 fM_qTakes_j133
      rw [if_neg (show ¬ jz 1 = 2 by decide), if_neg (show ¬ jz 1 = 3 by decide), if_neg (show ¬ 3 < jz 1 by decide)]
    unfold fM_qTakes fM_qTakes_j15 fM_qTakes_j16 fM_qTakes_j38 fM_qTakes_j48 eAcc
    rw [if_pos (show jz 1 < 3 by decide), if_neg (show ¬ jz 1 = 0 by decide), if_neg (show ¬ jz 1 = 0 by decide), if_pos (show jz 1 = 1 from rfl), if_pos (show jz 1 = 1 from rfl), if_neg n1, if_pos rfl, ki, j55, j55, if_neg (show ¬ (1 : Int) = 0 by decide), if_pos rfl]
    by_cases c : v = 1
    · rw [if_pos (v1.mpr c), if_pos c]
      exact tk_1 k
    · rw [if_neg (fun t => c (v1.mp t)), if_neg c]
      exact tk_0 h87
  · have j75 : ∀ y, fM_qTakes_j75 (jz 2) (jw v) y = jhI y 110 88 0 := fun y => by
      unfold fM_qTakes_j75 fM_qTakes_j90 fM_qTakes_j133
      rw [if_neg (show ¬ jz 2 = 3 by decide), if_neg (show ¬ 3 < jz 2 by decide)]
    unfold fM_qTakes fM_qTakes_j15 fM_qTakes_j16 fM_qTakes_j38 fM_qTakes_j55 eAcc
    rw [if_pos (show jz 2 < 3 by decide), if_neg (show ¬ jz 2 = 0 by decide), if_neg (show ¬ jz 2 = 0 by decide), if_neg (show ¬ jz 2 = 1 by decide), if_neg (show ¬ jz 2 = 1 by decide), if_pos (show jz 2 = 2 from rfl), if_pos (show jz 2 = 2 from rfl), if_neg n1, if_pos rfl, j75, j75, h87, show (1 : Int64) = jw 1 from rfl, jw_add, if_neg (show ¬ (2 : Int) = 0 by decide), if_neg (show ¬ (2 : Int) = 1 by decide), if_pos rfl]
    by_cases c : v = 1
    · rw [if_pos (show jw v = jw 1 from v1.mpr c), if_pos c]
      exact tk_1 _
    · rw [if_neg (show ¬ jw v = jw 1 from fun t => c (v1.mp t)), if_neg c]
      exact tk_0 h87
  · unfold fM_qTakes fM_qTakes_j15 fM_qTakes_j16 fM_qTakes_j38 fM_qTakes_j55 fM_qTakes_j75 fM_qTakes_j90 fM_qTakes_j133 eAcc
    rw [if_neg (show ¬ jz 3 < 3 by decide), if_neg (show ¬ jz 3 = 0 by decide), if_neg (show ¬ jz 3 = 1 by decide), if_neg (show ¬ jz 3 = 2 by decide), if_pos (show jz 3 = 3 from rfl), if_neg (show ¬ 3 < jz 3 by decide), h87, jw_add, if_neg (show ¬ (3 : Int) = 0 by decide), if_neg (show ¬ (3 : Int) = 1 by decide), if_neg (show ¬ (3 : Int) = 2 by decide), if_pos rfl]
    exact tk_1 _
  · unfold fM_qTakes fM_qTakes_j15 fM_qTakes_j16 fM_qTakes_j38 fM_qTakes_j55 fM_qTakes_j75 fM_qTakes_j90 fM_qTakes_j128 fM_qTakes_j133 eAcc
    rw [if_neg (show ¬ jz 4 < 3 by decide), if_neg (show ¬ jz 4 = 0 by decide), if_neg (show ¬ jz 4 = 1 by decide), if_neg (show ¬ jz 4 = 2 by decide), if_neg (show ¬ jz 4 = 3 by decide), if_pos (show 3 < jz 4 by decide), if_pos (show jz 4 = 4 from rfl), h87, h88, if_neg (show ¬ (4 : Int) = 0 by decide), if_neg (show ¬ (4 : Int) = 1 by decide), if_neg (show ¬ (4 : Int) = 2 by decide), if_neg (show ¬ (4 : Int) = 3 by decide), if_pos rfl]
    by_cases c : f = 0
    · rw [if_pos (f0.mpr c)]
      by_cases c2 : acc < v
      · rw [if_pos (l1.mpr c2), if_pos (Or.inr c2)]
        exact tk_1 _
      · rw [if_neg (fun t => c2 (l1.mp t)), if_neg (by omega)]
        exact tk_0 h87
    · rw [if_neg (fun t => c (f0.mp t)), if_pos (by omega)]
      exact tk_1 _
  · unfold fM_qTakes fM_qTakes_j15 fM_qTakes_j16 fM_qTakes_j38 fM_qTakes_j55 fM_qTakes_j75 fM_qTakes_j90 fM_qTakes_j128 fM_qTakes_j133 eAcc
    rw [if_neg (show ¬ jz 5 < 3 by decide), if_neg (show ¬ jz 5 = 0 by decide), if_neg (show ¬ jz 5 = 1 by decide), if_neg (show ¬ jz 5 = 2 by decide), if_neg (show ¬ jz 5 = 3 by decide), if_pos (show 3 < jz 5 by decide), if_neg (show ¬ jz 5 = 4 by decide), h87, h88, if_neg (show ¬ (5 : Int) = 0 by decide), if_neg (show ¬ (5 : Int) = 1 by decide), if_neg (show ¬ (5 : Int) = 2 by decide), if_neg (show ¬ (5 : Int) = 3 by decide), if_neg (show ¬ (5 : Int) = 4 by decide)]
    by_cases c : f = 0
    · rw [if_pos (f0.mpr c)]
      by_cases c2 : v < acc
      · rw [if_pos (l2.mpr c2), if_pos (Or.inr c2)]
        exact tk_1 _
      · rw [if_neg (fun t => c2 (l2.mp t)), if_neg (by omega)]
        exact tk_0 h87
    · rw [if_neg (fun t => c (f0.mp t)), if_pos (by omega)]
      exact tk_1 _
/-- what both need to tell a value -/
def xVc (p d g : Nat) (D S : jD) (L : List Int) (V : Nat → Int) (h : jH) : Prop := iPD p d ∧ bV g D ∧ bS g S ∧ cV p g D h ∧ cS 11 S h ∧ (∀ j, j < 8 → h.1 (p + 8) j = jz (if j < g then ((jfarN g (ePD D) j : Nat) : Int) else 0)) ∧ cO 8 L 1 h ∧ ∀ k, k < g → jrun (eFct D S k (S 2 k)) (eFar D g k) L [] = some [V k]
def xVm (g : Nat) (D S : jD) (L C : List Int) (V : Nat → Int) (h : jH) : Prop := bV g D ∧ bS g S ∧ mV g D h ∧ mS S h ∧ L.length ≤ 1600 ∧ h.1 110 80 = jz L.length ∧ (∀ j, j < L.length → h.1 173 j = jz (C.getD j 0) ∧ xcode 1 (L.getD j 0) (C.getD j 0)) ∧ ∀ k, k < g → jrun (eFct D S k (S 2 k)) (eFar D g k) L [] = some [V k]
theorem xVc_fr {h' : jH} (X : xVc p d g D S L V h) (f : eFr xtc h h') : xVc p d g D S L V h' := by
  obtain ⟨x1, x2, x3, x4, x5, x6, x7, x8⟩ := X
  have hpd := x1
  unfold iPD at hpd
  exact ⟨x1, x2, x3, cV_fr (fun o k hk => f.1 _ _ (by unfold xtc; omega)) x4, cS_fr (fun o k hk => f.1 _ _ (by unfold xtc; omega)) x5, fun j hj => by rw [f.1 _ _ (by unfold xtc; omega)]; exact x6 j hj, cO_fr x7 (fun o k hk => f.1 _ _ (by unfold xtc; omega)), x8⟩
theorem xVm_fr {h' : jH} (X : xVm g D S L C V h) (f : eFr xtk h h') : xVm g D S L C V h' := by
  obtain ⟨x1, x2, x3, x4, x5, x6, x7, x8⟩ := X
  exact ⟨x1, x2, mV_fr (fun o k hk => f.1 _ _ (by unfold xtk; omega)) x3, mS_fr (fun k => f.1 _ _ (by unfold xtk; omega)) x4, x5, by rw [f.1 _ _ (by unfold xtk; omega)]; exact x6, fun j hj => by rw [f.1 _ _ (by unfold xtk; omega)]; exact x7 j hj, x8⟩
theorem xVc_val {k : Nat} (X : xVc p d g D S L V h) (hk : k < g) : ∃ h', fPy_valueFor p 8 (jz k) h = some (jz (V k), h') ∧ eFr xtc h h' := by
  obtain ⟨x1, x2, x3, x4, x5, x6, x7, x8⟩ := X
  exact c_val x1 x2 x4 x3 x5 x6 x7 hk (x8 k hk)
theorem xVm_val {k : Nat} (X : xVm g D S L C V h) (hk : k < g) : ∃ h', fM_qTold (jz k) h = some (jw (V k), h') ∧ eFr xtk h h' ∧ -1000000 ≤ V k ∧ V k ≤ 1000000 := by
  obtain ⟨x1, x2, x3, x4, x5, x6, x7, x8⟩ := X
  obtain ⟨h', e1, e2, e3⟩ := m_val x1 x3 x2 x4 x5 x6 x7 hk (x8 k hk)
  exact ⟨h', e1, eFr_mono e2 (fun o k hk => by unfold eQS at hk; unfold xtk; omega), e3⟩
/-- one guest more, the reference -/
theorem m_step {kd acc f : Int} {i : Nat} (hk : 0 ≤ kd ∧ kd ≤ 5) (X : xVm g D S L C V h) (hi : i < g) (h87 : h.2 110 87 = jw acc) (h88 : h.1 110 88 = jz f) (hf : f = 0 ∨ f = 1) (ha : -8000000 ≤ acc ∧ acc ≤ 8000000) : ∃ h', fM_ask_l188 (jz kd) (jz i, h) = some (.inl (jz ((i + 1 : Nat) : Int), h')) ∧ xVm g D S L C V h' ∧ eFr xtk h h' ∧ h'.1 110 88 = jz 0 ∧ h'.2 110 87 = jw (eAcc kd (V i) acc i f) := by
  have g8 := X.1.1
  obtain ⟨h1, e1, e2, e3, e4⟩ := xVm_val X hi
  have t2 : h1.2 110 87 = jw acc := by
    obtain ⟨x1, x2, x3, x4, x5, x6, x7, x8⟩ := X
    obtain ⟨h2, u1, u2, -⟩ := m_val x1 x3 x2 x4 x5 x6 x7 hi (x8 i hi)
    rw [e1] at u1
    have hh : h1 = h2 := congrArg Prod.snd (Option.some.inj u1)
    rw [hh, u2.2 _ _ (by unfold eQS; omega)]
    exact h87
  have t1 : h1.1 110 88 = jz f := by
    obtain ⟨x1, x2, x3, x4, x5, x6, x7, x8⟩ := X
    obtain ⟨h2, u1, u2, -⟩ := m_val x1 x3 x2 x4 x5 x6 x7 hi (x8 i hi)
    rw [e1] at u1
    have hh : h1 = h2 := congrArg Prod.snd (Option.some.inj u1)
    rw [hh, u2.1 _ _ (by unfold eQS; omega)]
    exact h88
  obtain ⟨p1, p2, p3⟩ := takes_ok (k := (i : Int)) hk t2 t1 hf (by omega) ⟨e3, e4⟩ (by omega)
  refine ⟨_, ?_, xVm_fr (xVm_fr X e2) p1, eFr_trans e2 p1, p2, p3⟩
  show fM_ask_l188_b (jz kd) (jz i) h = _
  unfold fM_ask_l188_b
  rw [sM_guestMany X.2.2.1, Option.bind_some, if_pos (by rw [jz_lt (by omega) (by omega) (by omega) (by omega)]; omega), e1, Option.bind_some, jk1]
theorem m_stop {kd : Int} (X : xVm g D S L C V h) : fM_ask_l188 (jz kd) (jz g, h) = some (.inr h) := by
  have g8 := X.1.1
  show fM_ask_l188_b (jz kd) (jz g) h = _
  unfold fM_ask_l188_b
  rw [sM_guestMany X.2.2.1, Option.bind_some, if_neg (by rw [jz_lt (by omega) (by omega) (by omega) (by omega)]; omega)]
/-- of a TEST -/
theorem test_ans {kd : Int} (hk : 0 ≤ kd ∧ kd ≤ 2) (hV : ∀ k, k < g → V k = 0 ∨ V k = 1) : ∀ m i, i + m = g → ∀ (hc hm : jH) (x c f : Int), xVc p d g D S L V hc → xVm g D S L C V hm → -1 ≤ x → x ≤ 8 → 0 ≤ c → c ≤ i → hm.1 110 88 = jz f → (f = 0 ∨ f = 1) → hm.2 110 87 = jw (if kd = 2 then c else x) → ∃ hc' hm' x' c', jlim (fA_answerOfTest_l7 p (jz kd)) (jz x, jz c, jz i, hc) = some (jz x', jz c', hc') ∧ jlim (fM_ask_l188 (jz kd)) (jz i, hm) = some hm' ∧ hm'.2 110 87 = jw (if kd = 2 then c' else x') ∧ -1 ≤ x' ∧ x' ≤ 8 ∧ 0 ≤ c' ∧ c' ≤ 8 ∧ eFr xtc hc hc' ∧ eFr xtk hm hm' := by
  intro m
  induction m with
  | zero =>
    intro i hi hc hm x c f Xc Xm hx1 hx2 hc1 hc2 _ _ h87
    have hi' : i = g := by omega
    subst hi'
    have g8 := Xc.2.1.1
    refine ⟨hc, hm, x, c, ?_, ?_, h87, hx1, hx2, hc1, by omega, eFr_refl _ _, eFr_refl _ _⟩
    · rw [jlim_1]
      show lim1 _ (fA_answerOfTest_l7_b p (jz kd) (jz x) (jz c) (jz i) hc) = _
      unfold fA_answerOfTest_l7_b
      rw [Xc.2.2.2.1.1, if_neg (by rw [jz_lt (by omega) (by omega) (by omega) (by omega)]; omega)]
      rfl
    · rw [jlim_1, m_stop Xm]
      rfl
  | succ m ih =>
    intro i hi hc hm x c f Xc Xm hx1 hx2 hc1 hc2 h88 hf h87
    have g8 := Xc.2.1.1
    obtain ⟨hc1', a1, a2⟩ := xVc_val Xc (show i < g by omega)
    have acb : -8000000 ≤ (if kd = 2 then c else x) ∧ (if kd = 2 then c else x) ≤ 8000000 := by split <;> omega
    obtain ⟨hm1, b1, b2, b3, b4, b5⟩ := m_step (kd := kd) (by omega) Xm (show i < g by omega) h87 h88 hf acb
    obtain ⟨x1, c1, r1, r2, r3, r4, r5, r6⟩ : ∃ x1 c1 : Int, fA_answerOfTest_l7_b p (jz kd) (jz x) (jz c) (jz i) hc = some (.inl (jz x1, jz c1, jz ((i + 1 : Nat) : Int), hc1')) ∧ -1 ≤ x1 ∧ x1 ≤ 8 ∧ 0 ≤ c1 ∧ c1 ≤ ((i + 1 : Nat) : Int) ∧ eAcc kd (V i) (if kd = 2 then c else x) i f = (if kd = 2 then c1 else x1) := by
      unfold fA_answerOfTest_l7_b
      rw [Xc.2.2.2.1.1, if_pos (by rw [jz_lt (by omega) (by omega) (by omega) (by omega)]; omega), a1, Option.bind_some]
      dsimp only
      have c1e : jz c + 1 = jz (c + 1) := by rw [show (1 : Int32) = jz 1 from rfl, jz_add]
      have i1e : jz (i : Int) + 1 = jz ((i + 1 : Nat) : Int) := jk1 i
      have xm1 : jz x = -1 ↔ x = -1 := by rw [show (-1 : Int32) = jz (-1) from rfl, jz_eq (by omega) (by omega) (by omega) (by omega)]
      rcases hV i (by omega) with hv | hv
      · rw [hv, if_pos (show jz 0 = 0 from rfl)]
        unfold fA_answerOfTest_l7_j54
        rw [i1e]
        refine ⟨x, c, rfl, hx1, hx2, hc1, by omega, ?_⟩
        unfold eAcc
        have : kd = 0 ∨ kd = 1 ∨ kd = 2 := by omega
        rcases this with rfl | rfl | rfl <;> simp
      · rw [hv, if_neg (show ¬ jz 1 = 0 by decide)]
        by_cases k1 : kd = 1
        · subst k1
          rw [if_pos (show jz 1 = 1 from rfl)]
          unfold fA_answerOfTest_l7_j51 fA_answerOfTest_l7_j54
          rw [i1e, c1e]
          exact ⟨i, c + 1, rfl, by omega, by omega, by omega, by omega, by unfold eAcc; simp⟩
        · rw [if_neg (show ¬ jz kd = 1 by rw [show (1 : Int32) = jz 1 from rfl, jz_eq (by omega) (by omega) (by omega) (by omega)]; exact k1)]
          by_cases xx : x = -1
          · rw [if_pos (xm1.mpr xx)]
            unfold fA_answerOfTest_l7_j51 fA_answerOfTest_l7_j54
            rw [i1e, c1e]
            refine ⟨i, c + 1, rfl, by omega, by omega, by omega, by omega, ?_⟩
            unfold eAcc
            have : kd = 0 ∨ kd = 2 := by omega
            rcases this with rfl | rfl <;> simp [xx]
          · rw [if_neg (fun t => xx (xm1.mp t))]
            unfold fA_answerOfTest_l7_j54
            rw [i1e, c1e]
            refine ⟨x, c + 1, rfl, hx1, hx2, by omega, by omega, ?_⟩
            unfold eAcc
            have : kd = 0 ∨ kd = 2 := by omega
            rcases this with rfl | rfl <;> simp [xx]
    rw [r6] at b5
    obtain ⟨hc', hm', x', c', p1, p2, p3, p4, p5, p6, p7, p8, p9⟩ := ih (i + 1) (by omega) hc1' hm1 x1 c1 0 (xVc_fr Xc a2) b2 r2 r3 r4 r5 b4 (Or.inl rfl) b5
    refine ⟨hc', hm', x', c', ?_, ?_, p3, p4, p5, p6, p7, eFr_trans a2 p8, eFr_trans b3 p9⟩
    · rw [jlim_1]
      show lim1 _ (fA_answerOfTest_l7_b p (jz kd) (jz x) (jz c) (jz i) hc) = _
      rw [r1]
      exact p1
    · rw [jlim_1, b1]
      exact p2
/-- of a SUM -/
theorem sum_ans {kd : Int} (hk : 3 ≤ kd ∧ kd ≤ 5) : ∀ m i, i + m = g → ∀ (hc hm : jH) (acc : Int), xVc p d g D S L V hc → xVm g D S L C V hm → -1000000 * (i : Int) ≤ acc → acc ≤ 1000000 * (i : Int) → hm.1 110 88 = jz (if i = 0 then 1 else 0) → hm.2 110 87 = jw acc → ∃ hc' hm' acc', jlim (fA_answerOfSum_l5 p (jz kd)) (jw acc, jz i, hc) = some (jw acc', hc') ∧ jlim (fM_ask_l188 (jz kd)) (jz i, hm) = some hm' ∧ hm'.2 110 87 = jw acc' ∧ eFr xtc hc hc' ∧ eFr xtk hm hm' := by
  intro m
  induction m with
  | zero =>
    intro i hi hc hm acc Xc Xm _ _ _ h87
    have hi' : i = g := by omega
    subst hi'
    have g8 := Xc.2.1.1
    refine ⟨hc, hm, acc, ?_, ?_, h87, eFr_refl _ _, eFr_refl _ _⟩
    · rw [jlim_1]
      show lim1 _ (fA_answerOfSum_l5_b p (jz kd) (jw acc) (jz i) hc) = _
      unfold fA_answerOfSum_l5_b
      rw [Xc.2.2.2.1.1, if_neg (by rw [jz_lt (by omega) (by omega) (by omega) (by omega)]; omega)]
      rfl
    · rw [jlim_1, m_stop Xm]
      rfl
  | succ m ih =>
    intro i hi hc hm acc Xc Xm ha1 ha2 h88 h87
    have g8 := Xc.2.1.1
    obtain ⟨hc1', a1, a2⟩ := xVc_val Xc (show i < g by omega)
    obtain ⟨-, -, -, vb1, vb2⟩ := xVm_val Xm (show i < g by omega)
    obtain ⟨hm1, b1, b2, b3, b4, b5⟩ := m_step (kd := kd) (by omega) Xm (show i < g by omega) h87 h88 (by split <;> omega) (by omega)
    have vi : (jz (V i)).toInt64 = jw (V i) := jzw (by omega) (by omega)
    have r : fA_answerOfSum_l5_b p (jz kd) (jw acc) (jz i) hc = some (.inl (jw (eAcc kd (V i) acc i (if i = 0 then 1 else 0)), jz ((i + 1 : Nat) : Int), hc1')) ∧ -1000000 * ((i + 1 : Nat) : Int) ≤ eAcc kd (V i) acc i (if i = 0 then 1 else 0) ∧ eAcc kd (V i) acc i (if i = 0 then 1 else 0) ≤ 1000000 * ((i + 1 : Nat) : Int) := by
      have i1e : jz (i : Int) + 1 = jz ((i + 1 : Nat) : Int) := jk1 i
      have i0 : jz (i : Int) = 0 ↔ i = 0 := by rw [show (0 : Int32) = jz 0 from rfl, jz_eq (by omega) (by omega) (by omega) (by omega)]; omega
      have l1 : jw acc < jw (V i) ↔ acc < V i := jw_lt (by omega) (by omega) (by omega) (by omega)
      have l2 : jw (V i) < jw acc ↔ V i < acc := jw_lt (by omega) (by omega) (by omega) (by omega)
      unfold fA_answerOfSum_l5_b
      rw [Xc.2.2.2.1.1, if_pos (by rw [jz_lt (by omega) (by omega) (by omega) (by omega)]; omega), a1, Option.bind_some]
      dsimp only
      unfold fA_answerOfSum_l5_j80 fA_answerOfSum_l5_j81 fMt_maxJ fMt_minJ
      rw [vi, i1e]
      have : kd = 3 ∨ kd = 4 ∨ kd = 5 := by omega
      rcases this with rfl | rfl | rfl
      · have ea : eAcc 3 (V i) acc i (if i = 0 then 1 else 0) = acc + V i := rfl
        rw [ea, if_pos (show jz 3 = 3 from rfl), jw_add]
        exact ⟨rfl, by omega, by omega⟩
      · have ea : eAcc 4 (V i) acc i (if i = 0 then 1 else 0) = if i = 0 then V i else if acc < V i then V i else acc := by
          show (if (if i = 0 then (1 : Int) else 0) = 1 ∨ acc < V i then V i else acc) = _
          by_cases z : i = 0
          · rw [if_pos z, if_pos z, if_pos (Or.inl rfl)]
          · rw [if_neg z, if_neg z]
            by_cases z2 : acc < V i
            · rw [if_pos z2, if_pos (Or.inr z2)]
            · rw [if_neg z2, if_neg (by omega)]
        rw [ea, if_neg (show ¬ jz 4 = 3 by decide), if_pos (show jz 4 = 4 from rfl)]
        by_cases z : i = 0
        · rw [if_pos (i0.mpr z), if_pos z]
          exact ⟨rfl, by omega, by omega⟩
        · rw [if_neg (fun t => z (i0.mp t)), if_neg z]
          by_cases z2 : acc < V i
          · rw [if_pos (l1.mpr z2), if_pos z2]
            exact ⟨rfl, by omega, by omega⟩
          · rw [if_neg (fun t => z2 (l1.mp t)), if_neg z2]
            exact ⟨rfl, by omega, by omega⟩
      · have ea : eAcc 5 (V i) acc i (if i = 0 then 1 else 0) = if i = 0 then V i else if V i < acc then V i else acc := by
          show (if (if i = 0 then (1 : Int) else 0) = 1 ∨ V i < acc then V i else acc) = _
          by_cases z : i = 0
          · rw [if_pos z, if_pos z, if_pos (Or.inl rfl)]
          · rw [if_neg z, if_neg z]
            by_cases z2 : V i < acc
            · rw [if_pos z2, if_pos (Or.inr z2)]
            · rw [if_neg z2, if_neg (by omega)]
        rw [ea, if_neg (show ¬ jz 5 = 3 by decide), if_neg (show ¬ jz 5 = 4 by decide)]
        by_cases z : i = 0
        · rw [if_pos (i0.mpr z), if_pos z]
          exact ⟨rfl, by omega, by omega⟩
        · rw [if_neg (fun t => z (i0.mp t)), if_neg z]
          by_cases z2 : V i < acc
          · rw [if_pos (l2.mpr z2), if_pos z2]
            exact ⟨rfl, by omega, by omega⟩
          · rw [if_neg (fun t => z2 (l2.mp t)), if_neg z2]
            exact ⟨rfl, by omega, by omega⟩
    obtain ⟨r1, r2, r3⟩ := r
    obtain ⟨hc', hm', acc', p1, p2, p3, p4, p5⟩ := ih (i + 1) (by omega) hc1' hm1 _ (xVc_fr Xc a2) b2 r2 r3 (by rw [if_neg (by omega)]; exact b4) b5
    refine ⟨hc', hm', acc', ?_, ?_, p3, eFr_trans a2 p4, eFr_trans b3 p5⟩
    · rw [jlim_1]
      show lim1 _ (fA_answerOfSum_l5_b p (jz kd) (jw acc) (jz i) hc) = _
      rw [r1]
      exact p1
    · rw [jlim_1, b1]
      exact p2
end XK
