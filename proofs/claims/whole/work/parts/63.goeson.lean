/-! behind a PART: how the reference goes on -/
/-- one step of a loop, then the rest of it -/
noncomputable def lim1 {S E : Type} (step : S → Option (S ⊕ E)) (r : Option (S ⊕ E)) : Option E := match r with
  | none => none
  | some (.inl s') => jlim step s'
  | some (.inr e) => some e
theorem jlim_1 {S E : Type} (step : S → Option (S ⊕ E)) (s : S) : jlim step s = lim1 step (step s) := jlim_eq step s
theorem lim1_bind {S E X : Type} (step : S → Option (S ⊕ E)) (x : Option X) (f : X → Option (S ⊕ E)) : lim1 step (Option.bind x f) = Option.bind x (fun z => lim1 step (f z)) := by
  cases x <;> rfl
theorem lim1_ite {S E : Type} (step : S → Option (S ⊕ E)) {c : Prop} [Decidable c] (x y : Option (S ⊕ E)) : lim1 step (if c then x else y) = if c then lim1 step x else lim1 step y := by
  split <;> rfl
noncomputable def kG (v : Int32) (z : jH) : Option jH := Option.bind (fM_qGoesOn z) (fun z5 => if z5.1 = 0 then jlim (fM_qSums_l15 v) (0, z5.2) else jlim (fM_qSums_l15 v) (1, z5.2))
noncomputable def kA (v : Int32) (z : jH) : Option jH := Option.bind (fM_qEndsPart z) (fun z3 => kG v z3)
noncomputable def kT (x : jH) : Option jH := if (x.1 110 5) = 0 then Option.bind (fM_qWordOf 0 7 x) (fun z25 => if z25.1 = (-1) then fM_qPartTold_j212 z25.1 z25.2 else Option.bind (fM_qAsksWord z25.1 z25.2) (fun z31 => fM_qPartTold_j212 z25.1 z31)) else some x
noncomputable def kB (v : Int32) (z3 : jH) : Option jH := if (z3.1 110 5) = 0 then kG v z3 else jlim (fM_qSums_l15 v) (0, z3)
noncomputable def kP (v : Int32) (h : jH) : Option jH := Option.bind (jlim fM_qPartTold_l2 (1, h)) (fun x => Option.bind (kT x) (kB v))
theorem k0 (v : Int32) (h : jH) : jlim (fM_qSums_l15 v) (0, h) = some h := by
  rw [jlim_1]
  rfl
theorem kP_eq {v : Int32} {h : jH} (h5 : h.1 110 5 = 0) : jlim (fM_qSums_l15 v) (1, h) = kP v h := by
  rw [jlim_1]
  show lim1 _ (fM_qSums_l15_b v 1 h) = _
  unfold fM_qSums_l15_b
  rw [if_neg (show ¬ (1 : Int32) = 0 by decide), if_pos h5, lim1_bind]
  unfold kP
  rw [show fM_qPartTold h = Option.bind (jlim fM_qPartTold_l2 (1, h)) kT from rfl, Option.bind_assoc]
  congr 1
  funext x
  congr 1
  funext z3
  unfold kB kG
  rw [lim1_ite]
  congr 1
  rw [lim1_bind]
  congr 1
  funext z5
  rw [lim1_ite]
  rfl
section XG
variable {v : Int32} {n : Nat} {T : Nat → Nat} {e : Int} {s b : Nat} {a md : Int} {W C π : List Int} {h : jH} {f pl : Int}
theorem kP_F (R : mF n T f pl h) : kP v h = some h := by
  have l : jlim fM_qPartTold_l2 (1, h) = some h := by
    rw [jlim_1]
    show lim1 _ (fM_qPartTold_l2_b 1 h) = _
    unfold fM_qPartTold_l2_b
    rw [if_neg (show ¬ (1 : Int32) = 0 by decide), if_neg (mF_5 R)]
    rfl
  unfold kP kT kB
  rw [l, Option.bind_some, if_neg (mF_5 R), Option.bind_some, if_neg (mF_5 R), k0]
theorem kP_step {h' : jH} (l : fM_qPartTold_l2 (1, h) = some (.inl (1, h'))) : kP v h = kP v h' := by
  unfold kP
  rw [jlim_1, l]
  rfl
theorem kP_out {h' : jH} (l : fM_qPartTold_l2 (1, h) = some (.inl (0, h'))) : kP v h = Option.bind (kT h') (kB v) := by
  unfold kP
  rw [jlim_1, l]
  show Option.bind (jlim fM_qPartTold_l2 (0, h')) _ = _
  rw [jlim_1]
  rfl
theorem xCh_iff (t : xTm n T h) {c : Nat} (hc : c < 256) : jz (xCh n T s) = jz (c : Int) ↔ s < n ∧ T s = c := by
  unfold xCh
  by_cases c0 : s < n
  · have := (t.2 s c0).1
    rw [if_pos c0, jz_eq (by omega) (by omega) (by omega) (by omega)]
    constructor
    · intro t; exact ⟨c0, by omega⟩
    · intro t; have := t.2; omega
  · rw [if_neg c0, jz_eq (by omega) (by omega) (by omega) (by omega)]
    constructor
    · intro t; omega
    · intro t; exact absurd t.1 c0
theorem xCh_41 (t : xTm n T h) : jz (xCh n T s) = 41 ↔ s < n ∧ T s = 41 := xCh_iff (c := 41) t (by omega)
theorem xCh_40 (t : xTm n T h) : jz (xCh n T s) = 40 ↔ s < n ∧ T s = 40 := xCh_iff (c := 40) t (by omega)
theorem sM_ts0 {c : Nat} (R : mL n T e s h) (hc : c < 256) (hn : ¬ (s < n ∧ T s = c)) : fM_takesSign (jz c) h = some (0, h) := by
  unfold fM_takesSign
  rw [mR_5 R.1, if_pos rfl, sM_look0 R, Option.bind_some, if_neg (fun t => hn ((xCh_iff R.1.1 hc).mp t))]
theorem sM_ts1 {c : Nat} (R : mL n T e s h) (hc : c < 256) (hy : s < n ∧ T s = c) : fM_takesSign (jz c) h = some (1, jhI h 110 2 (jz ((s + 1 : Nat) : Int))) := by
  have e1 : jz (s : Int) + 1 = jz ((s + 1 : Nat) : Int) := by rw [show (1 : Int32) = jz 1 from rfl, jz_add]; rfl
  unfold fM_takesSign
  rw [mR_5 R.1, if_pos rfl, sM_look0 R, Option.bind_some, if_pos ((xCh_iff R.1.1 hc).mpr hy)]
  dsimp only
  rw [R.2, e1]
/-- no sign of a SUM stands here -/
def xno (n : Nat) (T : Nat → Nat) (s : Nat) : Prop := ¬ (s < n ∧ T s = 42) ∧ ¬ (s < n ∧ T s = 47) ∧ ¬ (s < n ∧ T s = 43) ∧ ¬ (s < n ∧ T s = 45)
theorem gl0_no (R : mR n T e s h) (O : mO (π ++ W) b a C md h) (hp : ∀ x ∈ π, xop x) (hw : xbr W b) (hn : ¬ ((s < n ∧ T s = 41) ∧ ∃ x r, W = x :: r ∧ b < W.length ∧ (x = 20 ∨ x = 23 ∨ x = 24))) : ∃ h1, jlim fM_qGoesOn_l0 h = some h1 ∧ mL n T e s h1 ∧ eFr xm2 h h1 := by
  obtain ⟨h1, q1, q2, q3⟩ := sM_look R
  have O1 := mO_m O (xm_2 q3)
  obtain ⟨b1, b2⟩ := sM_brk O1 hp hw
  refine ⟨h1, ?_, q2, q3⟩
  rw [jlim_1]
  show lim1 _ (fM_qGoesOn_l0_b h) = _
  unfold fM_qGoesOn_l0_b
  rw [mR_5 R, if_pos rfl, q1, Option.bind_some]
  dsimp only
  by_cases c : s < n ∧ T s = 41
  · rw [if_pos ((xCh_41 R.1).mpr c)]
    rcases hw with hw | ⟨x, r, rfl, x1, x2, x3⟩
    · rw [b1 hw, Option.bind_some, if_neg (show ¬ jz (-1) = 20 by decide), Option.bind_some, if_neg (show ¬ jz (-1) = 23 by decide), Option.bind_some, if_neg (show ¬ jz (-1) = 24 by decide)]
      rfl
    · have hx : ¬ (x = 20 ∨ x = 23 ∨ x = 24) := fun t => hn ⟨c, x, r, rfl, x3, t⟩
      rw [b2 x r rfl x3, Option.bind_some, if_neg (by rw [show (20 : Int32) = jz 20 from rfl, jz_eq (by omega) (by omega) (by omega) (by omega)]; omega), Option.bind_some, if_neg (by rw [show (23 : Int32) = jz 23 from rfl, jz_eq (by omega) (by omega) (by omega) (by omega)]; omega), Option.bind_some, if_neg (by rw [show (24 : Int32) = jz 24 from rfl, jz_eq (by omega) (by omega) (by omega) (by omega)]; omega)]
      rfl
  · rw [if_neg (fun t => c ((xCh_41 R.1).mp t))]
    rfl
theorem xbr_60 (hw : xbr W b) (hp : ∀ x ∈ π, xop x) : (π ++ W).length = b ∨ ∃ x r, π ++ W = x :: r ∧ x < 60 := by
  cases π with
  | nil =>
    rcases hw with hw | ⟨x, r, rfl, x1, x2, x3⟩
    · exact Or.inl hw
    · exact Or.inr ⟨x, r, rfl, by omega⟩
  | cons y π =>
    have := hp y (List.mem_cons_self ..)
    unfold xop at this
    exact Or.inr ⟨y, π ++ W, rfl, by omega⟩
theorem kA_kG (R : mR n T e s h) (O : mO W b a C md h) (hW : W.length = b ∨ ∃ x r, W = x :: r ∧ x < 60) : kA v h = kG v h := by
  unfold kA
  rw [sM_ends0 R O hW, Option.bind_some]
/-- heads of a stack -/
def xhd (P : Int → Prop) (W : List Int) : Prop := ∀ x r, W = x :: r → P x
theorem gl_mul (c : Int32) : ∀ (π : List Int) (C : List Int) (h : jH), mO (π ++ W) b a C md h → (∀ x ∈ π, x = 3 ∨ x = 4) → xhd (fun x => x ≠ 3 ∧ x ≠ 4) W → b ≤ W.length → C.length + π.length ≤ 1600 → ∃ h', jlim (fM_qGoesOn_l162 c) h = some h' ∧ mO W b a (C ++ π) md h' ∧ eFr xq h h' := by
  intro π
  induction π with
  | nil =>
    intro C h O _ hw _ _
    rw [List.append_nil]
    rw [List.nil_append] at O
    refine ⟨h, ?_, O, eFr_refl _ _⟩
    have l : fM_qGoesOn_l162 c h = some (.inr h) := by
      show fM_qGoesOn_l162_b c h = _
      unfold fM_qGoesOn_l162_b
      cases W with
      | nil => rw [sM_isOn0 O, Option.bind_some, if_pos rfl, sM_isOn0 O, Option.bind_some, if_pos rfl]
      | cons x W =>
        have hx := hw x W rfl
        rw [show fM_qIsOn 3 h = _ from sM_isOn (y := 3) O (by omega), if_neg hx.1, Option.bind_some, if_pos rfl, show fM_qIsOn 4 h = _ from sM_isOn (y := 4) O (by omega), if_neg hx.2, Option.bind_some, if_pos rfl]
    rw [jlim_1, l]
    rfl
  | cons y π ih =>
    intro C h O hp hw hb hl
    simp only [List.length_cons] at hl
    have O0 : mO (y :: (π ++ W)) b a C md h := O
    have hy := hp y (List.mem_cons_self ..)
    obtain ⟨h1, q1, q2, q3⟩ := sM_drops O0 (by rw [List.length_append]; omega) (by omega)
    obtain ⟨h2, p1, p2, p3⟩ := ih (C ++ [y]) h1 q2 (fun x hx => hp x (List.mem_cons_of_mem _ hx)) hw hb (by rw [List.length_append, List.length_singleton]; omega)
    refine ⟨h2, ?_, by rw [List.append_assoc] at p2; exact p2, eFr_trans q3 p3⟩
    have l : fM_qGoesOn_l162 c h = some (.inl h1) := by
      show fM_qGoesOn_l162_b c h = _
      unfold fM_qGoesOn_l162_b fM_qGoesOn_l162_j178
      rcases hy with rfl | rfl
      · rw [show fM_qIsOn 3 h = _ from sM_isOn (y := 3) O0 (by omega), if_pos rfl, Option.bind_some, if_neg (by decide), q1, Option.bind_some]
      · rw [show fM_qIsOn 3 h = _ from sM_isOn (y := 3) O0 (by omega), if_neg (by omega), Option.bind_some, if_pos rfl, show fM_qIsOn 4 h = _ from sM_isOn (y := 4) O0 (by omega), if_pos rfl, Option.bind_some, if_neg (by decide), q1, Option.bind_some]
    rw [jlim_1, l]
    exact p1
theorem gl_add (c : Int32) : ∀ (π : List Int) (C : List Int) (h : jH), mO (π ++ W) b a C md h → (∀ x ∈ π, xop x) → xhd (fun x => ¬ xop x) W → b ≤ W.length → C.length + π.length ≤ 1600 → ∃ h', jlim (fM_qGoesOn_l247 c) h = some h' ∧ mO W b a (C ++ π) md h' ∧ eFr xq h h' := by
  intro π
  induction π with
  | nil =>
    intro C h O _ hw _ _
    rw [List.append_nil]
    rw [List.nil_append] at O
    refine ⟨h, ?_, O, eFr_refl _ _⟩
    have l : fM_qGoesOn_l247 c h = some (.inr h) := by
      show fM_qGoesOn_l247_b c h = _
      unfold fM_qGoesOn_l247_b
      cases W with
      | nil => rw [sM_isOn0 O, Option.bind_some, if_pos rfl, sM_isOn0 O, Option.bind_some, if_pos rfl, sM_isOn0 O, Option.bind_some, if_pos rfl, sM_isOn0 O, Option.bind_some, if_pos rfl]
      | cons x W =>
        have hx := hw x W rfl
        unfold xop at hx
        rw [show fM_qIsOn 3 h = _ from sM_isOn (y := 3) O (by omega), if_neg (show ¬ x = 3 by omega), Option.bind_some, if_pos rfl, show fM_qIsOn 4 h = _ from sM_isOn (y := 4) O (by omega), if_neg (show ¬ x = 4 by omega), Option.bind_some, if_pos rfl, show fM_qIsOn 1 h = _ from sM_isOn (y := 1) O (by omega), if_neg (show ¬ x = 1 by omega), Option.bind_some, if_pos rfl, show fM_qIsOn 2 h = _ from sM_isOn (y := 2) O (by omega), if_neg (show ¬ x = 2 by omega), Option.bind_some, if_pos rfl]
    rw [jlim_1, l]
    rfl
  | cons y π ih =>
    intro C h O hp hw hb hl
    simp only [List.length_cons] at hl
    have O0 : mO (y :: (π ++ W)) b a C md h := O
    have hy := hp y (List.mem_cons_self ..)
    unfold xop at hy
    obtain ⟨h1, q1, q2, q3⟩ := sM_drops O0 (by rw [List.length_append]; omega) (by omega)
    obtain ⟨h2, p1, p2, p3⟩ := ih (C ++ [y]) h1 q2 (fun x hx => hp x (List.mem_cons_of_mem _ hx)) hw hb (by rw [List.length_append, List.length_singleton]; omega)
    refine ⟨h2, ?_, by rw [List.append_assoc] at p2; exact p2, eFr_trans q3 p3⟩
    have l : fM_qGoesOn_l247 c h = some (.inl h1) := by
      show fM_qGoesOn_l247_b c h = _
      unfold fM_qGoesOn_l247_b fM_qGoesOn_l247_j279
      have : y = 3 ∨ y = 4 ∨ y = 1 ∨ y = 2 := by omega
      rcases this with rfl | rfl | rfl | rfl
      · rw [show fM_qIsOn 3 h = _ from sM_isOn (y := 3) O0 (by omega), if_pos rfl, Option.bind_some, if_neg (by decide), q1, Option.bind_some]
      · rw [show fM_qIsOn 3 h = _ from sM_isOn (y := 3) O0 (by omega), if_neg (by omega), Option.bind_some, if_pos rfl, show fM_qIsOn 4 h = _ from sM_isOn (y := 4) O0 (by omega), if_pos rfl, Option.bind_some, if_neg (by decide), q1, Option.bind_some]
      · rw [show fM_qIsOn 3 h = _ from sM_isOn (y := 3) O0 (by omega), if_neg (by omega), Option.bind_some, if_pos rfl, show fM_qIsOn 4 h = _ from sM_isOn (y := 4) O0 (by omega), if_neg (by omega), Option.bind_some, if_pos rfl, show fM_qIsOn 1 h = _ from sM_isOn (y := 1) O0 (by omega), if_pos rfl, Option.bind_some, if_neg (by decide), q1, Option.bind_some]
      · rw [show fM_qIsOn 3 h = _ from sM_isOn (y := 3) O0 (by omega), if_neg (by omega), Option.bind_some, if_pos rfl, show fM_qIsOn 4 h = _ from sM_isOn (y := 4) O0 (by omega), if_neg (by omega), Option.bind_some, if_pos rfl, show fM_qIsOn 1 h = _ from sM_isOn (y := 1) O0 (by omega), if_neg (by omega), Option.bind_some, if_pos rfl, show fM_qIsOn 2 h = _ from sM_isOn (y := 2) O0 (by omega), if_pos rfl, Option.bind_some, if_neg (by decide), q1, Option.bind_some]
    rw [jlim_1, l]
    exact p1
theorem sM_pushx {x : Int} (O : mO W b a C md h) (hx : 0 ≤ x ∧ x ≤ 100) (hW : W.length < 1650) : (if jin (h.1 110 82) 1700 then some ((1 : Int32), jhI (jhI h 174 (h.1 110 82).toNatClampNeg (jz x)) 110 82 (((jhI h 174 (h.1 110 82).toNatClampNeg (jz x)).1 110 82) + 1)) else none) = some (1, jhI (jhI h 174 W.length (jz x)) 110 82 (jz ((W.length + 1 : Nat) : Int))) := by
  have o1 := O.1
  have ix : (jz (W.length : Int)).toNatClampNeg = W.length := by rw [jz_ix (by omega) (by omega), Int.toNat_natCast]
  have e1 : jz (W.length : Int) + 1 = jz ((W.length + 1 : Nat) : Int) := by rw [show (1 : Int32) = jz 1 from rfl, jz_add]; rfl
  have y : (jhI h 174 W.length (jz x)).1 110 82 = jz W.length := by rw [jhI_1, if_neg (by omega)]; exact o1
  rw [o1, if_pos (by rw [jin_z (by omega) (by omega)]; omega), ix, y, e1]
/-- the sign just taken -/
theorem sM_back (t : xTm n T h) (c0 : s < n) (h2 : h.1 110 2 = jz ((s + 1 : Nat) : Int)) : jin (h.1 110 2 - 1) 1600 ∧ h.1 111 (h.1 110 2 - 1).toNatClampNeg = jz (T s) := by
  have hb := t.1
  have e1 : jz ((s + 1 : Nat) : Int) - 1 = jz (s : Int) := by
    rw [show (1 : Int32) = jz 1 from rfl, jz_sub]
    congr 1
    omega
  rw [h2, e1]
  refine ⟨by rw [jin_z (by omega) (by omega)]; omega, ?_⟩
  rw [jz_ix (by omega) (by omega), Int.toNat_natCast]
  exact (t.2 s c0).2
/-- * and / -/
theorem kG_mul {x : Int} (R : mR n T e s h) (O : mO (π ++ W) b a C md h) (hp : ∀ x ∈ π, x = 3 ∨ x = 4) (hw : xbr W b ∨ (b < W.length ∧ xhd (fun x => x = 1 ∨ x = 2) W ∧ ∃ V, xbr V b ∧ ∃ y, W = y :: V)) (hh : xhd (fun x => x ≠ 3 ∧ x ≠ 4) W) (hy : (x = 3 ∧ s < n ∧ T s = 42) ∨ (x = 4 ∧ s < n ∧ T s = 47)) (hb : b ≤ W.length) (hl : C.length + π.length + W.length ≤ 1600) : ∃ h', kA v h = kP v h' ∧ mR n T e (xSk n T (s + 1)) h' ∧ mO (x :: W) b a (C ++ π) md h' ∧ eFr xg h h' := by
  have hop : ∀ x ∈ π, xop x := fun x hx => by have := hp x hx; unfold xop; omega
  have l0 : ∃ h1, jlim fM_qGoesOn_l0 h = some h1 ∧ mL n T e s h1 ∧ eFr xm2 h h1 := by
    rcases hw with hw | ⟨w1, w2, V, w3, y, rfl⟩
    · exact gl0_no R O hop hw (fun t => by
        have := t.1.2
        rcases hy with ⟨-, -, q⟩ | ⟨-, -, q⟩ <;> omega)
    · have w4 := w2 y V rfl
      have O' : mO ((π ++ [y]) ++ V) b a C md h := by rw [List.append_assoc]; exact O
      exact gl0_no R O' (fun x hx => by
        rcases List.mem_append.mp hx with hx | hx
        · exact hop x hx
        · have := List.mem_singleton.mp hx
          unfold xop; omega) w3 (fun t => by
        have := t.1.2
        rcases hy with ⟨-, -, q⟩ | ⟨-, -, q⟩ <;> omega)
  have tp : (π ++ W).length = b ∨ ∃ x r, π ++ W = x :: r ∧ x < 60 := by
    rcases hw with hw | ⟨w1, w2, V, w3, y, rfl⟩
    · exact xbr_60 hw hop
    · cases π with
      | nil => exact Or.inr ⟨y, V, rfl, by have := w2 y V rfl; omega⟩
      | cons z π => exact Or.inr ⟨z, π ++ y :: V, rfl, by have := hp z (List.mem_cons_self ..); omega⟩
  obtain ⟨h1, q1, q2, q3⟩ := l0
  rw [kA_kG R O tp]
  have O1 := mO_m O (xm_2 q3)
  have c0 : s < n := by rcases hy with ⟨-, q, -⟩ | ⟨-, q, -⟩ <;> exact q
  obtain ⟨h2, hh2⟩ : ∃ h2, h2 = jhI h1 110 2 (jz ((s + 1 : Nat) : Int)) := ⟨_, rfl⟩
  have R2 : mR n T e (xSk n T (s + 1)) h2 := by rw [hh2]; exact mR_sign q2 c0
  have f2 : eFr xm h1 h2 := by rw [hh2]; exact xm_I2 (eFr_refl _ _) _
  have O2 := mO_m O1 f2
  have h22 : h2.1 110 2 = jz ((s + 1 : Nat) : Int) := by rw [hh2]; rfl
  obtain ⟨bk1, bk2⟩ := sM_back R2.1 c0 h22
  obtain ⟨h3, p1, p2, p3⟩ := gl_mul (jz x) π C h2 O2 hp hh hb (by omega)
  have R3 := mR_q R2 p3
  have xb : 0 ≤ x ∧ x ≤ 100 := by rcases hy with ⟨q, -⟩ | ⟨q, -⟩ <;> omega
  have ps := sM_pushx (x := x) p2 xb (by omega)
  have P4 := mO_push p2 xb (by omega)
  have f4 : eFr xq h3 (jhI (jhI h3 174 W.length (jz x)) 110 82 (jz ((W.length + 1 : Nat) : Int))) := xq_I (xq_I4 (eFr_refl _ _) _) (Or.inr (Or.inl rfl)) _
  have R4 := mR_q R3 f4
  refine ⟨_, ?_, R4, P4, eFr_trans (xg_m (eFr_trans (xm_2 q3) f2)) (xg_q (eFr_trans p3 f4))⟩
  have j : fM_qGoesOn_j140 h2 = some (1, jhI (jhI h3 174 W.length (jz x)) 110 82 (jz ((W.length + 1 : Nat) : Int))) := by
    unfold fM_qGoesOn_j140
    rw [if_pos bk1, bk2]
    rcases hy with ⟨rfl, -, q⟩ | ⟨rfl, -, q⟩
    · rw [q, if_pos (show jz ((42 : Nat) : Int) = 42 from rfl)]
      unfold fM_qGoesOn_j161
      rw [show jlim (fM_qGoesOn_l162 3) h2 = some h3 from p1, Option.bind_some]
      exact ps
    · rw [q, if_neg (show ¬ jz ((47 : Nat) : Int) = 42 by decide)]
      unfold fM_qGoesOn_j161
      rw [show jlim (fM_qGoesOn_l162 4) h2 = some h3 from p1, Option.bind_some]
      exact ps
  have g : fM_qGoesOn h = some (1, jhI (jhI h3 174 W.length (jz x)) 110 82 (jz ((W.length + 1 : Nat) : Int))) := by
    unfold fM_qGoesOn
    rw [q1, Option.bind_some]
    rcases hy with ⟨rfl, -, q⟩ | ⟨rfl, -, q⟩
    · rw [show fM_takesSign 42 h1 = some (1, h2) from by rw [hh2]; exact sM_ts1 (c := 42) q2 (by omega) ⟨c0, q⟩, Option.bind_some, if_neg (show ¬ (1 : Int32) = 0 by decide)]
      exact j
    · rw [show fM_takesSign 42 h1 = some (0, h1) from sM_ts0 (c := 42) q2 (by omega) (fun t => by have := t.2; omega), Option.bind_some, if_pos rfl]
      dsimp only
      rw [show fM_takesSign 47 h1 = some (1, h2) from by rw [hh2]; exact sM_ts1 (c := 47) q2 (by omega) ⟨c0, q⟩, Option.bind_some, if_neg (show ¬ (1 : Int32) = 0 by decide)]
      exact j
  unfold kG
  rw [g, Option.bind_some, if_neg (show ¬ (1 : Int32) = 0 by decide)]
  exact kP_eq (mR_5 R4)
/-- + and - -/
theorem kG_add {x : Int} (R : mR n T e s h) (O : mO (π ++ W) b a C md h) (hp : ∀ x ∈ π, xop x) (hw : xbr W b) (hh : xhd (fun x => ¬ xop x) W) (hy : (x = 1 ∧ s < n ∧ T s = 43) ∨ (x = 2 ∧ s < n ∧ T s = 45)) (hb : b ≤ W.length) (hl : C.length + π.length + W.length ≤ 1600) : ∃ h', kA v h = kP v h' ∧ mR n T e (xSk n T (s + 1)) h' ∧ mO (x :: W) b a (C ++ π) md h' ∧ eFr xg h h' := by
  obtain ⟨h1, q1, q2, q3⟩ := gl0_no R O hp hw (fun t => by
        have := t.1.2
        rcases hy with ⟨-, -, q⟩ | ⟨-, -, q⟩ <;> omega)
  rw [kA_kG R O (xbr_60 hw hp)]
  have O1 := mO_m O (xm_2 q3)
  have c0 : s < n := by rcases hy with ⟨-, q, -⟩ | ⟨-, q, -⟩ <;> exact q
  obtain ⟨h2, hh2⟩ : ∃ h2, h2 = jhI h1 110 2 (jz ((s + 1 : Nat) : Int)) := ⟨_, rfl⟩
  have R2 : mR n T e (xSk n T (s + 1)) h2 := by rw [hh2]; exact mR_sign q2 c0
  have f2 : eFr xm h1 h2 := by rw [hh2]; exact xm_I2 (eFr_refl _ _) _
  have O2 := mO_m O1 f2
  have h22 : h2.1 110 2 = jz ((s + 1 : Nat) : Int) := by rw [hh2]; rfl
  obtain ⟨bk1, bk2⟩ := sM_back R2.1 c0 h22
  obtain ⟨h3, p1, p2, p3⟩ := gl_add (jz x) π C h2 O2 hp hh hb (by omega)
  have R3 := mR_q R2 p3
  have xb : 0 ≤ x ∧ x ≤ 100 := by rcases hy with ⟨q, -⟩ | ⟨q, -⟩ <;> omega
  have ps := sM_pushx (x := x) p2 xb (by omega)
  have P4 := mO_push p2 xb (by omega)
  have f4 : eFr xq h3 (jhI (jhI h3 174 W.length (jz x)) 110 82 (jz ((W.length + 1 : Nat) : Int))) := xq_I (xq_I4 (eFr_refl _ _) _) (Or.inr (Or.inl rfl)) _
  have R4 := mR_q R3 f4
  refine ⟨_, ?_, R4, P4, eFr_trans (xg_m (eFr_trans (xm_2 q3) f2)) (xg_q (eFr_trans p3 f4))⟩
  have j : fM_qGoesOn_j225 h2 = some (1, jhI (jhI h3 174 W.length (jz x)) 110 82 (jz ((W.length + 1 : Nat) : Int))) := by
    unfold fM_qGoesOn_j225
    rw [if_pos bk1, bk2]
    rcases hy with ⟨rfl, -, q⟩ | ⟨rfl, -, q⟩
    · rw [q, if_pos (show jz ((43 : Nat) : Int) = 43 from rfl)]
      unfold fM_qGoesOn_j246
      rw [show jlim (fM_qGoesOn_l247 1) h2 = some h3 from p1, Option.bind_some]
      exact ps
    · rw [q, if_neg (show ¬ jz ((45 : Nat) : Int) = 43 by decide)]
      unfold fM_qGoesOn_j246
      rw [show jlim (fM_qGoesOn_l247 2) h2 = some h3 from p1, Option.bind_some]
      exact ps
  have g : fM_qGoesOn h = some (1, jhI (jhI h3 174 W.length (jz x)) 110 82 (jz ((W.length + 1 : Nat) : Int))) := by
    have tt : T s = 43 ∨ T s = 45 := by rcases hy with ⟨-, -, q⟩ | ⟨-, -, q⟩ <;> omega
    unfold fM_qGoesOn
    rw [q1, Option.bind_some, show fM_takesSign 42 h1 = some (0, h1) from sM_ts0 (c := 42) q2 (by omega) (fun t => by have := t.2; omega), Option.bind_some, if_pos rfl]
    dsimp only
    rw [show fM_takesSign 47 h1 = some (0, h1) from sM_ts0 (c := 47) q2 (by omega) (fun t => by have := t.2; omega), Option.bind_some, if_pos rfl]
    dsimp only
    rcases hy with ⟨rfl, -, q⟩ | ⟨rfl, -, q⟩
    · rw [show fM_takesSign 43 h1 = some (1, h2) from by rw [hh2]; exact sM_ts1 (c := 43) q2 (by omega) ⟨c0, q⟩, Option.bind_some, if_neg (show ¬ (1 : Int32) = 0 by decide)]
      exact j
    · rw [show fM_takesSign 43 h1 = some (0, h1) from sM_ts0 (c := 43) q2 (by omega) (fun t => by have := t.2; omega), Option.bind_some, if_pos rfl]
      dsimp only
      rw [show fM_takesSign 45 h1 = some (1, h2) from by rw [hh2]; exact sM_ts1 (c := 45) q2 (by omega) ⟨c0, q⟩, Option.bind_some, if_neg (show ¬ (1 : Int32) = 0 by decide)]
      exact j
  unfold kG
  rw [g, Option.bind_some, if_neg (show ¬ (1 : Int32) = 0 by decide)]
  exact kP_eq (mR_5 R4)
/-- no sign: what is left of qGoesOn -/
theorem g_none {h1 : jH} (q1 : jlim fM_qGoesOn_l0 h = some h1) (q2 : mL n T e s h1) (no : xno n T s) : fM_qGoesOn h = Option.bind (fM_qBracket h1) (fun z26 => if z26 = 21 then fM_qGoesOn_j326 h1 else Option.bind (fM_qBracket h1) (fun z33 => if z33 = 22 then fM_qGoesOn_j326 h1 else Option.bind (fM_qBracket h1) (fun z35 => if z35 = (-1) then some (0, h1) else some (0, fM_fail 1 (jz s) h1)))) := by
  obtain ⟨n1, n2, n3, n4⟩ := no
  unfold fM_qGoesOn
  rw [q1, Option.bind_some, show fM_takesSign 42 h1 = some (0, h1) from sM_ts0 (c := 42) q2 (by omega) n1, Option.bind_some, if_pos rfl]
  dsimp only
  rw [show fM_takesSign 47 h1 = some (0, h1) from sM_ts0 (c := 47) q2 (by omega) n2, Option.bind_some, if_pos rfl]
  dsimp only
  rw [show fM_takesSign 43 h1 = some (0, h1) from sM_ts0 (c := 43) q2 (by omega) n3, Option.bind_some, if_pos rfl]
  dsimp only
  rw [show fM_takesSign 45 h1 = some (0, h1) from sM_ts0 (c := 45) q2 (by omega) n4, Option.bind_some, if_pos rfl]
  dsimp only
  rw [mR_5 q2.1, q2.2]
  simp only [if_true]
/-- a SUM ends at the base -/
theorem kG_end (R : mR n T e s h) (O : mO (π ++ W) b a C md h) (hp : ∀ x ∈ π, xop x) (hb : W.length = b) (no : xno n T s) : ∃ h', kA v h = some h' ∧ mL n T e s h' ∧ mO (π ++ W) b a C md h' ∧ eFr xg h h' := by
  obtain ⟨h1, q1, q2, q3⟩ := gl0_no R O hp (Or.inl hb) (fun t => by
    obtain ⟨-, x, r, rfl, h2, -⟩ := t
    omega)
  have O1 := mO_m O (xm_2 q3)
  have b1 := (sM_brk O1 hp (Or.inl hb)).1 hb
  refine ⟨h1, ?_, q2, O1, xg_m (xm_2 q3)⟩
  rw [kA_kG R O (xbr_60 (Or.inl hb) hp)]
  unfold kG
  rw [g_none q1 q2 no, b1, Option.bind_some, if_neg (show ¬ jz (-1) = 21 by decide), Option.bind_some, if_neg (show ¬ jz (-1) = 22 by decide), Option.bind_some, if_pos (show jz (-1) = -1 from rfl), Option.bind_some, if_pos rfl, k0]
/-- a bracket that doesn't close -/
theorem kG_bad {x : Int} (R : mR n T e s h) (O : mO (π ++ (x :: W)) b a C md h) (hp : ∀ x ∈ π, xop x) (hb : b ≤ W.length) (hx : x = 20 ∨ x = 23 ∨ x = 24) (no : xno n T s) (hn : ¬ (s < n ∧ T s = 41)) (hl : C.length + π.length + W.length ≤ 1600 := by omega) : ∃ h', kA v h = some h' ∧ mF n T 1 s h' ∧ xgF h h' := by
  have hw : xbr (x :: W) b := Or.inr ⟨x, W, rfl, by omega, by omega, by simp only [List.length_cons]; omega⟩
  obtain ⟨h1, q1, q2, q3⟩ := gl0_no R O hp hw (fun t => hn t.1)
  have O1 := mO_m O (xm_2 q3)
  have b2 := (sM_brk O1 hp hw).2 x W rfl (by simp only [List.length_cons]; omega)
  have fl := sM_failR (p2 := (s : Int)) q2 (f := 1) (by omega)
  refine ⟨_, ?_, fl.1, xg_m (eFr_trans (xm_2 q3) fl.2), mcnt_m (mO_cnt O1) fl.2⟩
  rw [kA_kG R O (xbr_60 hw hp)]
  unfold kG
  rw [g_none q1 q2 no, b2, Option.bind_some, if_neg (by rw [show (21 : Int32) = jz 21 from rfl, jz_eq (by omega) (by omega) (by omega) (by omega)]; omega), Option.bind_some, if_neg (by rw [show (22 : Int32) = jz 22 from rfl, jz_eq (by omega) (by omega) (by omega) (by omega)]; omega), Option.bind_some, if_neg (by rw [show (-1 : Int32) = jz (-1) from rfl, jz_eq (by omega) (by omega) (by omega) (by omega)]; omega), Option.bind_some, if_pos rfl, k0]
  rfl
theorem mO_set {x y : Int} (O : mO (x :: W) b a C md h) (hy : 0 ≤ y ∧ y ≤ 100) : mO (y :: W) b a C md (jhI h 174 W.length (jz y)) := by
  obtain ⟨o1, o2, o3, o4, o5, o6, o7, o8, o9, o10, o11, o12, o13⟩ := O
  simp only [List.length_cons] at o2
  refine ⟨?_, fun i hi => ?_, ?_, o4, ?_, ?_, fun j hj => ?_, ?_, o9, o10, fun z hz => ?_, o12, o13⟩
  · rw [jhI_1, if_neg (by omega)]; exact o1
  · simp only [List.length_cons] at hi
    have := o2 i hi
    rw [eAt] at this
    rw [jhI_1, eAt]
    by_cases q : i = W.length
    · rw [if_pos ⟨rfl, q⟩, if_pos q]
    · rw [if_neg (fun t => q t.2), if_neg q]
      rw [if_neg q] at this
      exact this
  · rw [jhI_1, if_neg (by omega)]; exact o3
  · rw [jhI_1, if_neg (by omega)]; exact o5
  · rw [jhI_1, if_neg (by omega)]; exact o6
  · rw [jhI_1, if_neg (by omega)]; exact o7 j hj
  · rw [jhI_1, if_neg (by omega)]; exact o8
  · rcases List.mem_cons.mp hz with rfl | hz
    · exact hy
    · exact o11 z (List.mem_cons_of_mem _ hz)
/-- MIN and MAX ask a comma -/
theorem kG_comma {x : Int} (R : mR n T e s h) (O : mO (π ++ (x :: W)) b a C md h) (hp : ∀ x ∈ π, xop x) (hb : b ≤ W.length) (hx : x = 21 ∨ x = 22) (no : xno n T s) (hl : C.length + π.length + W.length ≤ 1600) : (¬ (s < n ∧ T s = 44) → ∃ h', kA v h = some h' ∧ mF n T 1 s h' ∧ xgF h h') ∧ (s < n ∧ T s = 44 → ∃ h', kA v h = kP v h' ∧ mR n T e (xSk n T (s + 1)) h' ∧ mO ((x + 2) :: W) b a (C ++ π) md h' ∧ eFr xg h h') := by
  have hw : xbr (x :: W) b := Or.inr ⟨x, W, rfl, by omega, by omega, by simp only [List.length_cons]; omega⟩
  obtain ⟨h1, q1, q2, q3⟩ := gl0_no R O hp hw (fun t => by
    obtain ⟨-, y, r, e1, -, h2⟩ := t
    have := (List.cons.inj e1).1
    omega)
  have O1 := mO_m O (xm_2 q3)
  have b2 := (sM_brk O1 hp hw).2 x W rfl (by simp only [List.length_cons]; omega)
  have gj : fM_qGoesOn h = fM_qGoesOn_j326 h1 := by
    rw [g_none q1 q2 no, b2, Option.bind_some]
    rcases hx with rfl | rfl
    · rw [if_pos (show jz 21 = 21 from rfl)]
    · rw [if_neg (show ¬ jz 22 = 21 by decide), Option.bind_some, if_pos (show jz 22 = 22 from rfl)]
  have as := sM_asign (c := 44) q2.1 (by omega)
  constructor
  · intro hn
    obtain ⟨h2, p1, p2, p3⟩ := as.1 hn
    refine ⟨h2, ?_, p2, xg_m (eFr_trans (xm_2 q3) p3), mcnt_m (mO_cnt O1) p3⟩
    rw [kA_kG R O (xbr_60 hw hp)]
    unfold kG
    rw [gj]
    unfold fM_qGoesOn_j326
    rw [show fM_asksSign 44 h1 = some h2 from p1, Option.bind_some, if_neg (mF_5 p2), Option.bind_some, if_pos rfl, k0]
  · intro hy
    obtain ⟨h2, p1, p2, p3⟩ := as.2 hy
    have O2 := mO_m O1 p3
    obtain ⟨h3, r1, r2, r3⟩ := sM_toBr π C h2 O2 hp hw (by omega)
    obtain ⟨t1, t2, t3, t4⟩ := mO_top r2
    have S4 := mO_set (y := x + 2) r2 (by omega)
    have f4 : eFr xq h3 (jhI h3 174 W.length (jz (x + 2))) := xq_I4 (eFr_refl _ _) _
    have R4 := mR_q (mR_q p2 r3) f4
    refine ⟨_, ?_, R4, S4, eFr_trans (xg_m (eFr_trans (xm_2 q3) p3)) (xg_q (eFr_trans r3 f4))⟩
    rw [kA_kG R O (xbr_60 hw hp)]
    unfold kG
    rw [gj]
    unfold fM_qGoesOn_j326
    rw [show fM_asksSign 44 h1 = some h2 from p1, Option.bind_some, if_pos (mR_5 p2), r1, Option.bind_some, t2, if_pos t4, if_pos t4, t3, t1, Option.bind_some, if_neg (show ¬ (1 : Int32) = 0 by decide), show (2 : Int32) = jz 2 from rfl, jz_add]
    exact kP_eq (mR_5 R4)
/-- a bracket closes -/
theorem kG_close {x : Int} (R : mR n T e s h) (O : mO (π ++ (x :: W)) b a C md h) (hp : ∀ x ∈ π, xop x) (hb : b ≤ W.length) (hx : x = 20 ∨ x = 23 ∨ x = 24) (hy : s < n ∧ T s = 41) (ha : -1999 ≤ a) (hl : C.length + π.length + W.length ≤ 1600) : ∃ h', kA v h = kA v h' ∧ mR n T e (xSk n T (s + 1)) h' ∧ mO W b (a - 1) (C ++ π ++ (if x = 20 then [] else if x = 23 then [5] else [6])) md h' ∧ eFr xg h h' := by
  have hw : xbr (x :: W) b := Or.inr ⟨x, W, rfl, by omega, by omega, by simp only [List.length_cons]; omega⟩
  obtain ⟨h1, q1, q2, q3⟩ := sM_look R
  have O1 := mO_m O (xm_2 q3)
  have b2 := (sM_brk O1 hp hw).2 x W rfl (by simp only [List.length_cons]; omega)
  obtain ⟨h2, hh2⟩ : ∃ h2, h2 = jhI h1 110 2 (jz ((s + 1 : Nat) : Int)) := ⟨_, rfl⟩
  have R2 : mR n T e (xSk n T (s + 1)) h2 := by rw [hh2]; exact mR_sign q2 hy.1
  have f2 : eFr xm h1 h2 := by rw [hh2]; exact xm_I2 (eFr_refl _ _) _
  have O2 := mO_m O1 f2
  obtain ⟨h3, r1, r2, r3⟩ := sM_toBr π C h2 O2 hp hw (by omega)
  obtain ⟨t1, t2, t3, t4⟩ := mO_top r2
  have P4 := mO_lev (a' := a - 1) (mO_pop r2 hb) (by have := r2.2.2.2.2.2.2.2.2.2.2.2.2; omega)
  obtain ⟨h4, hh4⟩ : ∃ h4, h4 = jhI (jhI h3 110 82 (jz W.length)) 110 83 (jz (a - 1)) := ⟨_, rfl⟩
  rw [← hh4] at P4
  have f4 : eFr xq h3 h4 := by rw [hh4]; exact xq_I (xq_I (eFr_refl _ _) (Or.inr (Or.inl rfl)) _) (Or.inr (Or.inr (Or.inl rfl))) _
  have R4 := mR_q (mR_q R2 r3) f4
  have x4 : h4.1 174 W.length = jz x := by
    rw [hh4, jhI_1, if_neg (by omega), jhI_1, if_neg (by omega)]; exact t1
  have o82 : h4.1 110 82 = jz W.length := P4.1
  have e1 : h1.1 110 2 + 1 = jz ((s + 1 : Nat) : Int) := by rw [q2.2, show (1 : Int32) = jz 1 from rfl, jz_add]; rfl
  have o83 : (jhI h3 110 82 (jz W.length)).1 110 83 - 1 = jz (a - 1) := by
    have := r2.2.2.2.2.1
    rw [jhI_1, if_neg (by omega), this, show (1 : Int32) = jz 1 from rfl, jz_sub]
  -- what comes behind
  have fin : ∀ h5, mR n T e (xSk n T (s + 1)) h5 → mO W b (a - 1) (C ++ π ++ (if x = 20 then [] else if x = 23 then [5] else [6])) md h5 → eFr xg h h5 → fM_qGoesOn_l0_j43 h1 = fM_qGoesOn_l0_j115 h5 → ∃ h', kA v h = kA v h' ∧ mR n T e (xSk n T (s + 1)) h' ∧ mO W b (a - 1) (C ++ π ++ (if x = 20 then [] else if x = 23 then [5] else [6])) md h' ∧ eFr xg h h' := by
    intro h5 R5 O5 f5 hj
    refine ⟨h5, ?_, R5, O5, f5⟩
    rw [kA_kG R O (xbr_60 hw hp)]
    have l : fM_qGoesOn_l0 h = Option.bind (fM_qEndsPart h5) (fun z9 => some (.inl z9)) := by
      show fM_qGoesOn_l0_b h = _
      unfold fM_qGoesOn_l0_b
      rw [mR_5 R, if_pos rfl, q1, Option.bind_some, if_pos ((xCh_41 R.1).mpr hy)]
      dsimp only
      rw [b2, Option.bind_some, Option.bind_some, Option.bind_some]
      rw [show Option.bind (fM_qEndsPart h5) (fun z9 => some (Sum.inl z9)) = fM_qGoesOn_l0_j115 h5 from rfl, ← hj]
      rcases hx with rfl | rfl | rfl
      · rw [if_pos (show jz 20 = 20 from rfl)]
      · rw [if_neg (show ¬ jz 23 = 20 by decide), if_pos (show jz 23 = 23 from rfl)]
      · rw [if_neg (show ¬ jz 24 = 20 by decide), if_neg (show ¬ jz 24 = 23 by decide), if_pos (show jz 24 = 24 from rfl)]
    unfold kA
    cases hz : fM_qEndsPart h5 with
    | none =>
      rw [hz] at l
      unfold kG fM_qGoesOn
      rw [jlim_1, l]
      rfl
    | some z =>
      rw [hz] at l
      show kG v h = kG v z
      unfold kG fM_qGoesOn
      rw [jlim_1, l]
      rfl
  have base : eFr xg h h4 := eFr_trans (xg_m (eFr_trans (xm_2 q3) f2)) (xg_q (eFr_trans r3 f4))
  have j43 : fM_qGoesOn_l0_j43 h1 = (if jz x = 20 then fM_qGoesOn_l0_j115 h4 else if jz x = 23 then fM_qGoesOn_l0_j112 5 h4 else fM_qGoesOn_l0_j112 6 h4) := by
    unfold fM_qGoesOn_l0_j43
    rw [e1, ← hh2, r1, Option.bind_some]
    rw [t2, o83, ← hh4, o82, if_pos t4, if_pos t4, t3, x4]
  rcases hx with rfl | rfl | rfl
  · refine fin h4 R4 ?_ base ?_
    · rw [if_pos rfl, List.append_nil]; exact P4
    · rw [j43, if_pos (show jz 20 = 20 from rfl)]
  · obtain ⟨h5, u1, u2, u3⟩ := sM_code (c := 5) P4 (by rw [List.length_append]; omega)
    refine fin h5 (mR_q R4 u3) ?_ (eFr_trans base (xg_q u3)) ?_
    · rw [if_neg (by omega), if_pos rfl]; exact u2
    · rw [j43, if_neg (show ¬ jz 23 = 20 by decide), if_pos (show jz 23 = 23 from rfl)]
      unfold fM_qGoesOn_l0_j112
      rw [show fM_qCode 5 h4 = some h5 from u1, Option.bind_some]
  · obtain ⟨h5, u1, u2, u3⟩ := sM_code (c := 6) P4 (by rw [List.length_append]; omega)
    refine fin h5 (mR_q R4 u3) ?_ (eFr_trans base (xg_q u3)) ?_
    · rw [if_neg (by omega), if_neg (by omega)]; exact u2
    · rw [j43, if_neg (show ¬ jz 24 = 20 by decide), if_neg (show ¬ jz 24 = 23 by decide)]
      unfold fM_qGoesOn_l0_j112
      rw [show fM_qCode 6 h4 = some h5 from u1, Option.bind_some]
end XG
