/-! behind a FACT: how the reference goes on -/
noncomputable def tG (z : jH) : Option jH := Option.bind (fM_qGoesOnTest z) (fun z11 => if z11.1 = 0 then jlim fM_qTest_l2 (0, z11.2) else jlim fM_qTest_l2 (1, z11.2))
noncomputable def tB (z9 : jH) : Option jH := if (z9.1 110 5) = 0 then tG z9 else jlim fM_qTest_l2 (0, z9)
noncomputable def tA (h : jH) : Option jH := Option.bind (fM_qDropsNots h) tB
noncomputable def tP (h : jH) : Option jH := jlim fM_qTest_l2 (1, h)
section XTG
variable {n : Nat} {T : Nat → Nat} {e : Int} {s b : Nat} {a md : Int} {W C π : List Int} {h : jH} {f pl : Int}
theorem t0 (h : jH) : jlim fM_qTest_l2 (0, h) = some h := by
  rw [jlim_1]
  rfl
theorem tP_F (R : mF n T f pl h) : tP h = some h := by
  unfold tP
  rw [jlim_1]
  show lim1 _ (fM_qTest_l2_b 1 h) = _
  unfold fM_qTest_l2_b
  rw [if_neg (show ¬ (1 : Int32) = 0 by decide), if_neg (mF_5 R)]
  rfl
theorem nots_F (R : mF n T f pl h) : fM_qDropsNots h = some h := by
  unfold fM_qDropsNots
  rw [jlim_1]
  show Option.bind (lim1 _ (fM_qDropsNots_l0_b h)) _ = _
  unfold fM_qDropsNots_l0_b
  rw [if_neg (mF_5 R)]
  rfl
theorem tA_F (R : mF n T f pl h) : tA h = some h := by
  unfold tA tB
  rw [nots_F R, Option.bind_some, if_neg (mF_5 R), t0]
theorem nots_0 (R : mR n T e s h) (O : mO W b a C md h) (hW : xhd (fun x => x ≠ 12) W) : fM_qDropsNots h = some h := by
  have l : fM_qDropsNots_l0 h = some (.inr h) := by
    show fM_qDropsNots_l0_b h = _
    unfold fM_qDropsNots_l0_b
    rw [mR_5 R, if_pos rfl]
    cases W with
    | nil => rw [sM_isOn0 O, Option.bind_some, if_pos rfl]
    | cons x W => rw [show fM_qIsOn 12 h = _ from sM_isOn (y := 12) O (by omega), if_neg (hW x W rfl), Option.bind_some, if_pos rfl]
  unfold fM_qDropsNots
  rw [jlim_1, l]
  rfl
theorem nots_1 (R : mR n T e s h) (O : mO (12 :: W) b a C md h) (hb : b ≤ W.length) (ha : -2000 < a) (hC : C.length < 1650) : ∃ h', fM_qDropsNots h = fM_qDropsNots h' ∧ mO W b (a - 1) (C ++ [12]) md h' ∧ eFr xq h h' := by
  have o83 := O.2.2.2.2.1
  have ab := O.2.2.2.2.2.2.2.2.2.2.2.2
  have ea : jz a - 1 = jz (a - 1) := by rw [show (1 : Int32) = jz 1 from rfl, jz_sub]
  obtain ⟨h', q1, q2, q3⟩ := sM_drops (mO_lev (a' := a - 1) O (by omega)) hb hC
  refine ⟨h', ?_, q2, eFr_trans (xq_I (eFr_refl _ _) (Or.inr (Or.inr (Or.inl rfl))) _) q3⟩
  have l : fM_qDropsNots_l0 h = some (.inl h') := by
    show fM_qDropsNots_l0_b h = _
    unfold fM_qDropsNots_l0_b
    rw [mR_5 R, if_pos rfl, show fM_qIsOn 12 h = _ from sM_isOn (y := 12) O (by omega), if_pos rfl, Option.bind_some, if_neg (show ¬ (1 : Int32) = 0 by decide), o83, ea, q1, Option.bind_some]
  unfold fM_qDropsNots
  rw [jlim_1, l]
  rfl
theorem nots_nf : ∀ (W : List Int) (a : Int) (C : List Int) (h : jH), mR n T e s h → mO W b a C md h → b = 0 → C.length + W.length ≤ 1600 → (W.length : Int) - 2000 ≤ a → ∃ h', fM_qDropsNots h = some h' ∧ h'.1 110 5 = 0 := by
  intro W
  induction W with
  | nil => intro a C h R O _ _ _; exact ⟨h, nots_0 R O (fun x r hx => by cases hx), mR_5 R⟩
  | cons x W ih =>
    intro a C h R O hb hl ha
    simp only [List.length_cons] at hl ha
    by_cases hx : x = 12
    · subst hx
      obtain ⟨h1, q1, q2, q3⟩ := nots_1 R O (by omega) (by omega) (by omega)
      obtain ⟨h2, p1, p2⟩ := ih (a - 1) (C ++ [12]) h1 (mR_q R q3) q2 hb (by rw [List.length_append, List.length_singleton]; omega) (by omega)
      exact ⟨h2, by rw [q1]; exact p1, p2⟩
    · exact ⟨h, nots_0 R O (fun y r hy => by rw [← (List.cons.inj hy).1]; exact hx), mR_5 R⟩
theorem tA_tG (R : mR n T e s h) (O : mO W b a C md h) (hW : xhd (fun x => x ≠ 12) W) : tA h = tG h := by
  unfold tA tB
  rw [nots_0 R O hW, Option.bind_some, if_pos (mR_5 R)]
theorem eAt_mem : ∀ (S : List Int) (i : Nat), i < S.length → eAt S i ∈ S := by
  intro S
  induction S with
  | nil => intro i h; simp at h
  | cons x S ih =>
    intro i h
    simp only [List.length_cons] at h
    rw [eAt]
    by_cases q : i = S.length
    · rw [if_pos q]; exact List.mem_cons_self ..
    · rw [if_neg q]; exact List.mem_cons_of_mem _ (ih i (by omega))
theorem eAt_app (x : Int) (r : List Int) : ∀ V : List Int, eAt (V ++ x :: r) r.length = x := by
  intro V
  induction V with
  | nil => rw [List.nil_append, eAt, if_pos rfl]
  | cons z V ihV =>
    show (if r.length = (V ++ x :: r).length then z else eAt (V ++ x :: r) r.length) = x
    rw [if_neg (by simp only [List.length_append, List.length_cons]; omega)]
    exact ihV
theorem square (O : mO W b a C md h) : ((∃ i, i < W.length ∧ eAt W i = 25) → fM_qHasSquare h = some 1) ∧ ((∀ i, i < W.length → eAt W i ≠ 25) → fM_qHasSquare h = some 0) := by
  obtain ⟨o1, o2, o3, o4, o5, o6, o7, o8, o9, o10, o11, o12, o13⟩ := O
  have st : ∀ i, i < W.length → fM_qHasSquare_l2 h (jz i) = if eAt W i = 25 then some (.inr (.inl ())) else some (.inl (jz ((i + 1 : Nat) : Int))) := by
    intro i hi
    have hb := o11 _ (eAt_mem W i hi)
    have ix : (jz (i : Int)).toNatClampNeg = i := by rw [jz_ix (by omega) (by omega), Int.toNat_natCast]
    show fM_qHasSquare_l2_b (jz i) h = _
    unfold fM_qHasSquare_l2_b
    rw [o1, if_pos (by rw [jz_lt (by omega) (by omega) (by omega) (by omega)]; omega), if_pos (by rw [jin_z (by omega) (by omega)]; omega), ix, o2 i hi, jk1]
    by_cases q : eAt W i = 25
    · rw [if_pos q, if_pos (by rw [q]; rfl)]
    · rw [if_neg q, if_neg (by rw [show (25 : Int32) = jz 25 from rfl, jz_eq (by omega) (by omega) (by omega) (by omega)]; exact q)]
  have go : ∀ m i, i + m = W.length → ((∃ j, i ≤ j ∧ j < W.length ∧ eAt W j = 25) → jlim (fM_qHasSquare_l2 h) (jz i) = some (.inl ())) ∧ ((∀ j, i ≤ j → j < W.length → eAt W j ≠ 25) → jlim (fM_qHasSquare_l2 h) (jz i) = some (.inr ())) := by
    intro m
    induction m with
    | zero =>
      intro i hi
      refine ⟨fun ⟨j, j1, j2, _⟩ => by omega, fun _ => ?_⟩
      rw [jlim_1]
      show lim1 _ (fM_qHasSquare_l2_b (jz i) h) = _
      unfold fM_qHasSquare_l2_b
      rw [o1, if_neg (by rw [jz_lt (by omega) (by omega) (by omega) (by omega)]; omega)]
      rfl
    | succ m ih =>
      intro i hi
      obtain ⟨i1, i2⟩ := ih (i + 1) (by omega)
      rw [jlim_1, st i (by omega)]
      by_cases q : eAt W i = 25
      · rw [if_pos q]
        exact ⟨fun _ => rfl, fun al => absurd q (al i (by omega) (by omega))⟩
      · rw [if_neg q]
        refine ⟨fun t => ?_, fun al => i2 (fun j j1 j2 => al j (by omega) j2)⟩
        obtain ⟨j, j1, j2, j3⟩ := t
        have jn : j ≠ i := fun z => q (by rw [← z]; exact j3)
        exact i1 ⟨j, by omega, j2, j3⟩
  obtain ⟨g1, g2⟩ := go W.length 0 (by omega)
  constructor
  · rintro ⟨i, i1, i2⟩
    have l : jlim (fM_qHasSquare_l2 h) 0 = some (.inl ()) := g1 ⟨i, by omega, i1, i2⟩
    unfold fM_qHasSquare
    rw [l, Option.bind_some]
    rfl
  · intro al
    have l : jlim (fM_qHasSquare_l2 h) 0 = some (.inr ()) := g2 (fun j _ hj => al j hj)
    unfold fM_qHasSquare
    rw [l, Option.bind_some]
    rfl
/-- where no ] closes -/
theorem gt0_no (R : mR n T e s h) (O : mO W b a C md h) (hn : ¬ (s < n ∧ T s = 93) ∨ ∀ i, i < W.length → eAt W i ≠ 25) : ∃ h1, jlim fM_qGoesOnTest_l0 h = some h1 ∧ mL n T e s h1 ∧ eFr xm2 h h1 := by
  obtain ⟨h1, q1, q2, q3⟩ := sM_look R
  have O1 := mO_m O (xm_2 q3)
  have k93 : jz (xCh n T s) = 93 ↔ s < n ∧ T s = 93 := xCh_iff (c := 93) R.1 (by omega)
  refine ⟨h1, ?_, q2, q3⟩
  rw [jlim_1]
  show lim1 _ (fM_qGoesOnTest_l0_b h) = _
  unfold fM_qGoesOnTest_l0_b
  rw [mR_5 R, if_pos rfl, q1, Option.bind_some]
  dsimp only
  by_cases c : s < n ∧ T s = 93
  · rw [if_pos (k93.mpr c), (square O1).2 (hn.resolve_left (fun t => t c)), Option.bind_some, if_pos rfl]
    rfl
  · rw [if_neg (fun t => c (k93.mp t))]
    rfl
theorem sM_tk0 {M i : Nat} (R : mL n T e s h) (W : xMw M i) (hn : ¬ xHas n T e s (xw i) = true) : fM_takes M h = some (0, h) := by
  unfold fM_takes
  rw [sM_here0 R W, if_neg hn, Option.bind_some, if_pos rfl]
/-- drop all of these -/
theorem gt_drop {step : jH → Option (jH ⊕ jH)} (P : Int → Prop) (hs : ∀ {x : Int} {W C : List Int} {h : jH}, mO (x :: W) b a C md h → P x → step h = Option.bind (fM_qDrops h) (fun z => some (.inl z))) (he : ∀ {W C : List Int} {h : jH}, mO W b a C md h → xhd (fun x => ¬ P x) W → step h = some (.inr h)) : ∀ (π : List Int) (C : List Int) (h : jH), mO (π ++ W) b a C md h → (∀ x ∈ π, P x) → xhd (fun x => ¬ P x) W → b ≤ W.length → C.length + π.length ≤ 1600 → ∃ h', jlim step h = some h' ∧ mO W b a (C ++ π) md h' ∧ eFr xq h h' := by
  intro π
  induction π with
  | nil =>
    intro C h O _ hw _ _
    rw [List.append_nil]
    rw [List.nil_append] at O
    refine ⟨h, ?_, O, eFr_refl _ _⟩
    rw [jlim_1, he O hw]
    rfl
  | cons y π ih =>
    intro C h O hp hw hb hl
    simp only [List.length_cons] at hl
    have O0 : mO (y :: (π ++ W)) b a C md h := O
    obtain ⟨h1, q1, q2, q3⟩ := sM_drops O0 (by rw [List.length_append]; omega) (by omega)
    obtain ⟨h2, p1, p2, p3⟩ := ih (C ++ [y]) h1 q2 (fun x hx => hp x (List.mem_cons_of_mem _ hx)) hw hb (by rw [List.length_append, List.length_singleton]; omega)
    refine ⟨h2, ?_, by rw [List.append_assoc] at p2; exact p2, eFr_trans q3 p3⟩
    rw [jlim_1, hs O0 (hp y (List.mem_cons_self ..)), q1, Option.bind_some]
    exact p1
theorem gt_and : ∀ (π : List Int) (C : List Int) (h : jH), mO (π ++ W) b a C md h → (∀ x ∈ π, x = 10) → xhd (fun x => ¬ x = 10) W → b ≤ W.length → C.length + π.length ≤ 1600 → ∃ h', jlim fM_qGoesOnTest_l87 h = some h' ∧ mO W b a (C ++ π) md h' ∧ eFr xq h h' :=
  gt_drop (fun x => x = 10) (fun {x W C h} O hx => by
    show fM_qGoesOnTest_l87_b h = _
    unfold fM_qGoesOnTest_l87_b
    rw [show fM_qIsOn 10 h = _ from sM_isOn (y := 10) O (by omega), if_pos hx, Option.bind_some, if_neg (show ¬ (1 : Int32) = 0 by decide)]) (fun {W C h} O hw => by
    show fM_qGoesOnTest_l87_b h = _
    unfold fM_qGoesOnTest_l87_b
    cases W with
    | nil => rw [sM_isOn0 O, Option.bind_some, if_pos rfl]
    | cons x W => rw [show fM_qIsOn 10 h = _ from sM_isOn (y := 10) O (by omega), if_neg (hw x W rfl), Option.bind_some, if_pos rfl])
theorem gt_or : ∀ (π : List Int) (C : List Int) (h : jH), mO (π ++ W) b a C md h → (∀ x ∈ π, x = 10 ∨ x = 11) → xhd (fun x => ¬ (x = 10 ∨ x = 11)) W → b ≤ W.length → C.length + π.length ≤ 1600 → ∃ h', jlim fM_qGoesOnTest_l137 h = some h' ∧ mO W b a (C ++ π) md h' ∧ eFr xq h h' :=
  gt_drop (fun x => x = 10 ∨ x = 11) (fun {x W C h} O hx => by
    show fM_qGoesOnTest_l137_b h = _
    unfold fM_qGoesOnTest_l137_b fM_qGoesOnTest_l137_j155
    rw [show fM_qIsOn 10 h = _ from sM_isOn (y := 10) O (by omega)]
    rcases hx with rfl | rfl
    · rw [if_pos rfl, Option.bind_some, if_neg (show ¬ (1 : Int32) = 0 by decide)]
    · rw [if_neg (by omega), Option.bind_some, if_pos rfl, show fM_qIsOn 11 h = _ from sM_isOn (y := 11) O (by omega), if_pos rfl, Option.bind_some, if_neg (show ¬ (1 : Int32) = 0 by decide)]) (fun {W C h} O hw => by
    show fM_qGoesOnTest_l137_b h = _
    unfold fM_qGoesOnTest_l137_b
    cases W with
    | nil => rw [sM_isOn0 O, Option.bind_some, if_pos rfl, sM_isOn0 O, Option.bind_some, if_pos rfl]
    | cons x W =>
      have hx := hw x W rfl
      rw [show fM_qIsOn 10 h = _ from sM_isOn (y := 10) O (by omega), if_neg (fun t => hx (Or.inl t)), Option.bind_some, if_pos rfl, show fM_qIsOn 11 h = _ from sM_isOn (y := 11) O (by omega), if_neg (fun t => hx (Or.inr t)), Option.bind_some, if_pos rfl])
theorem gt_sq : ∀ (π : List Int) (C : List Int) (h : jH), mO (π ++ W) b a C md h → (∀ x ∈ π, x ≠ 25) → xhd (fun x => ¬ x ≠ 25) W → W ≠ [] → b ≤ W.length → C.length + π.length ≤ 1600 → ∃ h', jlim fM_qGoesOnTest_l33 h = some h' ∧ mO W b a (C ++ π) md h' ∧ eFr xq h h' := by
  intro π
  induction π with
  | nil =>
    intro C h O _ hw hne _ _
    rw [List.append_nil]
    rw [List.nil_append] at O
    refine ⟨h, ?_, O, eFr_refl _ _⟩
    cases W with
    | nil => exact absurd rfl hne
    | cons x W =>
      have hx : x = 25 := Classical.byContradiction (hw x W rfl)
      rw [jlim_1]
      show lim1 _ (fM_qGoesOnTest_l33_b h) = _
      unfold fM_qGoesOnTest_l33_b
      rw [show fM_qIsOn 25 h = _ from sM_isOn (y := 25) O (by omega), if_pos hx, Option.bind_some, if_neg (show ¬ (1 : Int32) = 0 by decide)]
      rfl
  | cons y π ih =>
    intro C h O hp hw hne hb hl
    simp only [List.length_cons] at hl
    have O0 : mO (y :: (π ++ W)) b a C md h := O
    obtain ⟨h1, q1, q2, q3⟩ := sM_drops O0 (by rw [List.length_append]; omega) (by omega)
    obtain ⟨h2, p1, p2, p3⟩ := ih (C ++ [y]) h1 q2 (fun x hx => hp x (List.mem_cons_of_mem _ hx)) hw hne hb (by rw [List.length_append, List.length_singleton]; omega)
    refine ⟨h2, ?_, by rw [List.append_assoc] at p2; exact p2, eFr_trans q3 p3⟩
    rw [jlim_1]
    show lim1 _ (fM_qGoesOnTest_l33_b h) = _
    unfold fM_qGoesOnTest_l33_b
    rw [show fM_qIsOn 25 h = _ from sM_isOn (y := 25) O0 (by omega), if_neg (hp y (List.mem_cons_self ..)), Option.bind_some, if_pos rfl, q1, Option.bind_some]
    exact p1
theorem xhd_12 (hp : ∀ x ∈ π, x = 10 ∨ x = 11) (hw : xhd (fun x => x ≠ 12) W) : xhd (fun x => x ≠ 12) (π ++ W) := by
  cases π with
  | nil => exact hw
  | cons y π =>
    intro x r h
    have := hp y (List.mem_cons_self ..)
    have h2 := (List.cons.inj h).1
    omega
/-- AND -/
theorem tG_and (R : mR n T e s h) (O : mO (π ++ W) b a C md h) (hp : ∀ x ∈ π, x = 10) (h1 : xhd (fun x => ¬ x = 10) W) (h2 : xhd (fun x => x ≠ 12) W) (hb : b ≤ W.length) (y : xHas n T e s (xw 20) = true) (hl : C.length + π.length + W.length ≤ 1600) : ∃ h', tA h = tP h' ∧ mR n T (xRun n T xL s) (xSk n T (xRun n T xL s)) h' ∧ mO (10 :: W) b a (C ++ π) md h' ∧ eFr xg h h' := by
  have nl : ¬ (s < n ∧ T s = 93) := fun t => by
    have := xHas_L (xw_ok (i := 20) (by omega)).1 (xw_ok (i := 20) (by omega)).2.2.2 y
    rw [t.2] at this
    exact absurd this (by decide)
  obtain ⟨g1, q1, q2, q3⟩ := gt0_no R O (Or.inl nl)
  have O1 := mO_m O (xm_2 q3)
  obtain ⟨g2, p1, p2, p3⟩ := (sM_takes q2.1 (xMw_xw (i := 7) (by omega))).2 y
  have O2 := mO_m O1 p3
  obtain ⟨g3, r1, r2, r3⟩ := gt_and π C g2 O2 hp h1 hb (by omega)
  have R3 := mR_q p2 r3
  have ps := sM_pushx (x := 10) r2 (by omega) (by omega)
  have P4 := mO_push r2 (x := 10) (by omega) (by omega)
  have f4 : eFr xq g3 (jhI (jhI g3 174 W.length (jz 10)) 110 82 (jz ((W.length + 1 : Nat) : Int))) := xq_I (xq_I4 (eFr_refl _ _) _) (Or.inr (Or.inl rfl)) _
  refine ⟨_, ?_, mR_q R3 f4, P4, eFr_trans (xg_m (eFr_trans (xm_2 q3) p3)) (xg_q (eFr_trans r3 f4))⟩
  rw [tA_tG R O (xhd_12 (fun x hx => Or.inl (hp x hx)) h2)]
  unfold tG fM_qGoesOnTest
  rw [q1, Option.bind_some, show fM_takes 160 g1 = _ from p1, Option.bind_some, if_neg (show ¬ (1 : Int32) = 0 by decide)]
  dsimp only
  rw [r1, Option.bind_some, show (10 : Int32) = jz 10 from rfl, ps, Option.bind_some, if_neg (show ¬ (1 : Int32) = 0 by decide)]
  rfl
/-- OR -/
theorem tG_or (R : mR n T e s h) (O : mO (π ++ W) b a C md h) (hp : ∀ x ∈ π, x = 10 ∨ x = 11) (h1 : xhd (fun x => ¬ (x = 10 ∨ x = 11)) W) (h2 : xhd (fun x => x ≠ 12) W) (hb : b ≤ W.length) (y : xHas n T e s (xw 19) = true) (hl : C.length + π.length + W.length ≤ 1600) : ∃ h', tA h = tP h' ∧ mR n T (xRun n T xL s) (xSk n T (xRun n T xL s)) h' ∧ mO (11 :: W) b a (C ++ π) md h' ∧ eFr xg h h' := by
  have nl : ¬ (s < n ∧ T s = 93) := fun t => by
    have := xHas_L (xw_ok (i := 19) (by omega)).1 (xw_ok (i := 19) (by omega)).2.2.2 y
    rw [t.2] at this
    exact absurd this (by decide)
  have n20 : ¬ xHas n T e s (xw 20) = true := fun t => by
    have := xHas_uq y t
    exact absurd this (by decide)
  obtain ⟨g1, q1, q2, q3⟩ := gt0_no R O (Or.inl nl)
  have O1 := mO_m O (xm_2 q3)
  obtain ⟨g2, p1, p2, p3⟩ := (sM_takes q2.1 (xMw_xw (i := 8) (by omega))).2 y
  have O2 := mO_m O1 p3
  obtain ⟨g3, r1, r2, r3⟩ := gt_or π C g2 O2 hp h1 hb (by omega)
  have R3 := mR_q p2 r3
  have ps := sM_pushx (x := 11) r2 (by omega) (by omega)
  have P4 := mO_push r2 (x := 11) (by omega) (by omega)
  have f4 : eFr xq g3 (jhI (jhI g3 174 W.length (jz 11)) 110 82 (jz ((W.length + 1 : Nat) : Int))) := xq_I (xq_I4 (eFr_refl _ _) _) (Or.inr (Or.inl rfl)) _
  refine ⟨_, ?_, mR_q R3 f4, P4, eFr_trans (xg_m (eFr_trans (xm_2 q3) p3)) (xg_q (eFr_trans r3 f4))⟩
  rw [tA_tG R O (xhd_12 hp h2)]
  unfold tG fM_qGoesOnTest
  rw [q1, Option.bind_some, show fM_takes 160 g1 = _ from sM_tk0 q2 (xMw_xw (i := 7) (by omega)) n20, Option.bind_some, if_pos rfl]
  dsimp only
  rw [show fM_takes 161 g1 = _ from p1, Option.bind_some, if_neg (show ¬ (1 : Int32) = 0 by decide)]
  dsimp only
  rw [r1, Option.bind_some, show (11 : Int32) = jz 11 from rfl, ps, Option.bind_some, if_neg (show ¬ (1 : Int32) = 0 by decide)]
  rfl
/-- neither -/
theorem tG_none {h1 : jH} (q1 : jlim fM_qGoesOnTest_l0 h = some h1) (q2 : mL n T e s h1) (n20 : ¬ xHas n T e s (xw 20) = true) (n19 : ¬ xHas n T e s (xw 19) = true) : fM_qGoesOnTest h = Option.bind (fM_qHasSquare h1) (fun z17 => if z17 = 0 then some (0, h1) else some (0, fM_fail 1 (jz s) h1)) := by
  unfold fM_qGoesOnTest
  rw [q1, Option.bind_some, show fM_takes 160 h1 = _ from sM_tk0 q2 (xMw_xw (i := 7) (by omega)) n20, Option.bind_some, if_pos rfl]
  dsimp only
  rw [show fM_takes 161 h1 = _ from sM_tk0 q2 (xMw_xw (i := 8) (by omega)) n19, Option.bind_some, if_pos rfl]
  dsimp only
  rw [mR_5 q2.1, if_pos rfl, q2.2]
theorem tG_end (R : mR n T e s h) (O : mO π b a C md h) (hp : ∀ x ∈ π, x = 10 ∨ x = 11) (n20 : ¬ xHas n T e s (xw 20) = true) (n19 : ¬ xHas n T e s (xw 19) = true) : ∃ h', tA h = some h' ∧ mL n T e s h' ∧ mO π b a C md h' ∧ eFr xg h h' := by
  have no25 : ∀ i, i < π.length → eAt π i ≠ 25 := fun i hi => by
    have := hp _ (eAt_mem π i hi)
    omega
  obtain ⟨h1, q1, q2, q3⟩ := gt0_no R O (Or.inr no25)
  have O1 := mO_m O (xm_2 q3)
  refine ⟨h1, ?_, q2, O1, xg_m (xm_2 q3)⟩
  have hw : xhd (fun x => x ≠ 12) π := fun x r h => by
    have := hp x (by rw [h]; exact List.mem_cons_self ..)
    omega
  rw [tA_tG R O hw]
  unfold tG
  rw [tG_none q1 q2 n20 n19, (square O1).2 no25, Option.bind_some, if_pos rfl, Option.bind_some, if_pos rfl, t0]
theorem tG_bad (R : mR n T e s h) (O : mO (π ++ 25 :: W) b a C md h) (hp : ∀ x ∈ π, x = 10 ∨ x = 11) (n20 : ¬ xHas n T e s (xw 20) = true) (n19 : ¬ xHas n T e s (xw 19) = true) (hn : ¬ (s < n ∧ T s = 93)) (hl : C.length + π.length + W.length ≤ 1600 := by omega) : ∃ h', tA h = some h' ∧ mF n T 1 s h' ∧ xgF h h' := by
  obtain ⟨h1, q1, q2, q3⟩ := gt0_no R O (Or.inl hn)
  have O1 := mO_m O (xm_2 q3)
  have fl := sM_failR (p2 := (s : Int)) q2 (f := 1) (by omega)
  refine ⟨_, ?_, fl.1, xg_m (eFr_trans (xm_2 q3) fl.2), mcnt_m (mO_cnt O1) fl.2⟩
  rw [tA_tG R O (xhd_12 hp (fun x r h => by have := (List.cons.inj h).1; omega))]
  unfold tG
  rw [tG_none q1 q2 n20 n19, (square O1).1 ⟨W.length, by simp only [List.length_append, List.length_cons]; omega, eAt_app 25 W π⟩, Option.bind_some, if_neg (show ¬ (1 : Int32) = 0 by decide), Option.bind_some, if_pos rfl, t0]
  rfl
theorem tG_close (R : mR n T e s h) (O : mO (π ++ 25 :: W) b a C md h) (hp : ∀ x ∈ π, x = 10 ∨ x = 11) (hb0 : b = 0) (hy : s < n ∧ T s = 93) (ha : 0 ≤ a) (hl : C.length + π.length + W.length ≤ 1600) : ∃ h', tA h = tA h' ∧ mR n T e (xSk n T (s + 1)) h' ∧ mO W b (a - 1) (C ++ π) md h' ∧ eFr xg h h' := by
  obtain ⟨h1, q1, q2, q3⟩ := sM_look R
  have O1 := mO_m O (xm_2 q3)
  have sq := (square O1).1 ⟨W.length, by simp only [List.length_append, List.length_cons]; omega, eAt_app 25 W π⟩
  obtain ⟨h2, hh2⟩ : ∃ h2, h2 = jhI h1 110 2 (jz ((s + 1 : Nat) : Int)) := ⟨_, rfl⟩
  have R2 : mR n T e (xSk n T (s + 1)) h2 := by rw [hh2]; exact mR_sign q2 hy.1
  have f2 : eFr xm h1 h2 := by rw [hh2]; exact xm_I2 (eFr_refl _ _) _
  have O2 := mO_m O1 f2
  obtain ⟨h3, r1, r2, r3⟩ := gt_sq π C h2 O2 (fun x hx => by have := hp x hx; omega) (fun x r h => by have := (List.cons.inj h).1; omega) (by intro t; cases t) (by omega) (by omega)
  obtain ⟨t1, t2, t3, t4⟩ := mO_top r2
  have P4 := mO_lev (a' := a - 1) (mO_pop r2 (by omega)) (by have := r2.2.2.2.2.2.2.2.2.2.2.2.2; omega)
  obtain ⟨h4, hh4⟩ : ∃ h4, h4 = jhI (jhI h3 110 82 (jz W.length)) 110 83 (jz (a - 1)) := ⟨_, rfl⟩
  rw [← hh4] at P4
  have f4 : eFr xq h3 h4 := by rw [hh4]; exact xq_I (xq_I (eFr_refl _ _) (Or.inr (Or.inl rfl)) _) (Or.inr (Or.inr (Or.inl rfl))) _
  have R4 := mR_q (mR_q R2 r3) f4
  have e1 : h1.1 110 2 + 1 = jz ((s + 1 : Nat) : Int) := by rw [q2.2, show (1 : Int32) = jz 1 from rfl, jz_add]; rfl
  have o83 : (jhI h3 110 82 (jz W.length)).1 110 83 - 1 = jz (a - 1) := by
    have := r2.2.2.2.2.1
    rw [jhI_1, if_neg (by omega), this, show (1 : Int32) = jz 1 from rfl, jz_sub]
  have me := mR_e R
  obtain ⟨z, z1, z2⟩ := nots_nf W (a - 1) (C ++ π) h4 R4 P4 hb0 (by rw [List.length_append]; omega) (by have := r2.2.2.2.2.2.2.2.2.1; simp only [List.length_cons] at this; omega)
  have k93 : jz (xCh n T s) = 93 ↔ s < n ∧ T s = 93 := xCh_iff (c := 93) R.1 (by omega)
  have l : fM_qGoesOnTest_l0 h = some (.inl z) := by
    show fM_qGoesOnTest_l0_b h = _
    unfold fM_qGoesOnTest_l0_b
    rw [mR_5 R, if_pos rfl, q1, Option.bind_some, if_pos (k93.mpr hy)]
    dsimp only
    rw [sq, Option.bind_some, if_neg (show ¬ (1 : Int32) = 0 by decide), e1, ← hh2, r1, Option.bind_some, t2, o83, ← hh4, z1, Option.bind_some]
  refine ⟨h4, ?_, R4, P4, eFr_trans (xg_m (eFr_trans (xm_2 q3) f2)) (xg_q (eFr_trans r3 f4))⟩
  rw [tA_tG R O (xhd_12 hp (fun x r h => by have := (List.cons.inj h).1; omega))]
  unfold tA tB
  rw [z1, Option.bind_some, if_pos z2]
  unfold tG fM_qGoesOnTest
  rw [jlim_1, l]
  rfl
/-- the first look of a FACT -/
theorem tP_eq (R : mR n T e s h) : ∃ h1, mL n T e s h1 ∧ eFr xm2 h h1 ∧ tP h = (if s < n ∧ T s = 91 then Option.bind (fM_qOpens 25 (jz s) h1) (fun z5 => tP (jhI z5 110 2 (z5.1 110 2 + 1))) else if xHas n T e s (xw 21) = true then Option.bind (fM_qOpens 12 (jz s) h1) (fun z13 => Option.bind (fM_asks 159 z13) (fun z14 => tP z14)) else Option.bind (fM_qFact h1) tA) := by
  obtain ⟨h1, q1, q2, q3⟩ := sM_look R
  have k91 : jz (xCh n T s) = 91 ↔ s < n ∧ T s = 91 := xCh_iff (c := 91) R.1 (by omega)
  have hr : fM_isHere 159 h1 = _ := sM_here0 q2 (xMw_xw (i := 6) (by omega))
  refine ⟨h1, q2, q3, ?_⟩
  unfold tP
  rw [jlim_1]
  show lim1 _ (fM_qTest_l2_b 1 h) = _
  unfold fM_qTest_l2_b
  rw [if_neg (show ¬ (1 : Int32) = 0 by decide), mR_5 R, if_pos rfl, q1, Option.bind_some]
  dsimp only
  by_cases c : s < n ∧ T s = 91
  · rw [if_pos (k91.mpr c), if_pos c, q2.2, lim1_bind]
    rfl
  · rw [if_neg (fun t => c (k91.mp t)), if_neg c, hr, Option.bind_some]
    dsimp only
    by_cases y : xHas n T e s (xw 21) = true
    · rw [if_pos (show xHas n T e s (xw ([25, 26, 27, 28, 29, 30, 21, 20, 19, 22, 23, 24].getD 6 0)) = true from y), if_neg (show ¬ (1 : Int32) = 0 by decide), if_pos y, q2.2, lim1_bind]
      congr 1
      funext z13
      rw [lim1_bind]
      rfl
    · rw [if_neg (show ¬ xHas n T e s (xw ([25, 26, 27, 28, 29, 30, 21, 20, 19, 22, 23, 24].getD 6 0)) = true from y), if_pos rfl, if_neg y, lim1_bind]
      congr 1
      funext z8
      unfold tA
      rw [lim1_bind]
      congr 1
      funext z9
      unfold tB tG
      rw [lim1_ite]
      congr 1
      rw [lim1_bind]
      congr 1
      funext z11
      rw [lim1_ite]
      rfl
end XTG
