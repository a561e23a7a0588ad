/-! SUM and TEST: steps, facts, what goes on -/
def cO (o : Nat) (L : List Int) (md : Int) (h : jH) : Prop := h.1 o 2 = jz L.length ∧ (∀ j, j < L.length → h.1 (o + 1) j = jz (L.getD j 0)) ∧ h.1 o 3 = jz md ∧ L.length ≤ 1600 ∧ 8 ≤ o
def xcnt (o : Nat) (h : jH) : Prop := ∃ c : Nat, c ≤ 1600 ∧ h.1 o 2 = jz c
def xc (o o' k : Nat) : Prop := o' = 6 ∨ (o' = o ∧ k = 2) ∨ o' = o + 1
def xa (o o' k : Nat) : Prop := (o' = o ∧ k = 2) ∨ o' = o + 1
theorem xc_6 {o : Nat} {h h1 : jH} (a : eFr x6 h h1) : eFr (xc o) h h1 := eFr_mono a (fun o k hk => Or.inl hk)
theorem xc_a {o : Nat} {h h1 : jH} (a : eFr (xa o) h h1) : eFr (xc o) h h1 := eFr_mono a (fun o k hk => Or.inr hk)
theorem cO_fr {o : Nat} {L : List Int} {md : Int} {h h' : jH} (O : cO o L md h) (f : ∀ o' k, o' = o ∨ o' = o + 1 → h'.1 o' k = h.1 o' k) : cO o L md h' := by
  obtain ⟨o1, o2, o3, o4, o5⟩ := O
  exact ⟨by rw [f _ _ (by omega)]; exact o1, fun j hj => by rw [f _ _ (by omega)]; exact o2 j hj, by rw [f _ _ (by omega)]; exact o3, o4, o5⟩
theorem cO_6 {o : Nat} {L : List Int} {md : Int} {h h' : jH} (O : cO o L md h) (f : eFr x6 h h') : cO o L md h' := cO_fr O (fun o' k hk => f.1 _ _ (by have := O.2.2.2.2; unfold x6; omega))
theorem cO_cnt {o : Nat} {L : List Int} {md : Int} {h : jH} (O : cO o L md h) : xcnt o h := ⟨L.length, O.2.2.2.1, O.1⟩
theorem xcnt_6 {o : Nat} {h h' : jH} (O : xcnt o h) (f : eFr x6 h h') (ho : 8 ≤ o) : xcnt o h' := by
  obtain ⟨c, c1, c2⟩ := O
  exact ⟨c, c1, by rw [f.1 _ _ (by unfold x6; omega)]; exact c2⟩
theorem cR_a {n : Nat} {T : Nat → Nat} {e : Int} {s o : Nat} {h h' : jH} (R : cR n T e s h) (f : eFr (xa o) h h') (ho : 8 ≤ o) : cR n T e s h' := cR_fr R (fun o' k hk => f.1 _ _ (by unfold xa; omega))
theorem cF_a {f pl : Int} {o : Nat} {h h' : jH} (R : cF f pl h) (w : eFr (xa o) h h') (ho : 8 ≤ o) : cF f pl h' := cF_fr R (fun k => w.1 _ _ (by unfold xa; omega))
theorem sFo_add {o : Nat} {L : List Int} {md x : Int} {h : jH} (O : cO o L md h) (hL : L.length < 1600) : ∃ h', fFo_add o (jz x) h = some h' ∧ cO o (L ++ [x]) md h' ∧ eFr (xa o) h h' := by
  obtain ⟨o1, o2, o3, o4, o5⟩ := O
  have ix : (jz (L.length : Int)).toNatClampNeg = L.length := by rw [jz_ix (by omega) (by omega), Int.toNat_natCast]
  have e1 : jz (L.length : Int) + 1 = jz ((L.length + 1 : Nat) : Int) := by rw [show (1 : Int32) = jz 1 from rfl, jz_add]; rfl
  refine ⟨jhI (jhI h (o + 1) L.length (jz x)) o 2 (jz ((L.length + 1 : Nat) : Int)), ?_, ⟨?_, fun j hj => ?_, ?_, ?_, o5⟩, eFr_I (S := xa o) (eFr_I (S := xa o) (eFr_refl _ _) (Or.inr rfl) _) (Or.inl ⟨rfl, rfl⟩) _⟩
  · unfold fFo_add
    rw [o1, if_pos (by rw [show (1600 : Int32) = jz 1600 from rfl, jz_lt (by omega) (by omega) (by omega) (by omega)]; omega), if_pos (by rw [jin_z (by omega) (by omega)]; omega), ix, jhI_1, if_neg (by omega), o1, e1]
  · rw [jhI_1, if_pos ⟨rfl, rfl⟩, List.length_append]; rfl
  · rw [List.length_append, List.length_singleton] at hj
    rw [jhI_1, if_neg (by omega), jhI_1, eLast]
    by_cases q : j = L.length
    · rw [if_pos ⟨rfl, q⟩, if_neg (by omega), if_pos q]
    · rw [if_neg (fun t => q t.2), if_pos (by omega)]; exact o2 j (by omega)
  · rw [jhI_1, if_neg (by omega), jhI_1, if_neg (by omega)]; exact o3
  · rw [List.length_append, List.length_singleton]; omega
theorem sFo_addF {o : Nat} {h : jH} (O : xcnt o h) (v : Int32) : ∃ h', fFo_add o v h = some h' ∧ xcnt o h' ∧ eFr (xa o) h h' := by
  obtain ⟨c, c1, c2⟩ := O
  unfold fFo_add
  rw [c2]
  by_cases q : c < 1600
  · have e1 : jz (c : Int) + 1 = jz ((c + 1 : Nat) : Int) := by rw [show (1 : Int32) = jz 1 from rfl, jz_add]; rfl
    refine ⟨jhI (jhI h (o + 1) (jz (c : Int)).toNatClampNeg v) o 2 (jz ((c + 1 : Nat) : Int)), ?_, ⟨c + 1, by omega, ?_⟩, eFr_I (S := xa o) (eFr_I (S := xa o) (eFr_refl _ _) (Or.inr rfl) _) (Or.inl ⟨rfl, rfl⟩) _⟩
    · rw [if_pos (by rw [show (1600 : Int32) = jz 1600 from rfl, jz_lt (by omega) (by omega) (by omega) (by omega)]; omega), if_pos (by rw [jin_z (by omega) (by omega)]; omega), jhI_1, if_neg (by omega), c2, e1]
    · rw [jhI_1, if_pos ⟨rfl, rfl⟩]
  · rw [if_neg (by rw [show (1600 : Int32) = jz 1600 from rfl, jz_lt (by omega) (by omega) (by omega) (by omega)]; omega)]
    exact ⟨h, rfl, ⟨c, c1, c2⟩, eFr_refl _ _⟩
/-- steps and codes tell the same -/
def xcode (md s c : Int) : Prop := c = jcode s ∨ (md = 1 ∧ s = 1 ∧ c = 13)
def xRel (md : Int) (L C : List Int) : Prop := L.length = C.length ∧ ∀ j, j < L.length → xcode md (L.getD j 0) (C.getD j 0)
theorem xRel_add {md : Int} {L C : List Int} {s c : Int} (h : xRel md L C) (hc : xcode md s c) : xRel md (L ++ [s]) (C ++ [c]) := by
  refine ⟨by simp only [List.length_append, List.length_singleton]; rw [h.1], fun j hj => ?_⟩
  rw [List.length_append, List.length_singleton] at hj
  rw [eLast, eLast, ← h.1]
  by_cases q : j < L.length
  · rw [if_pos q, if_pos q]; exact h.2 j q
  · rw [if_neg q, if_neg q, if_pos (by omega), if_pos (by omega)]; exact hc
/-- a run of steps that tells one value -/
def jseg (m : Nat) (l : List Int) : Prop := ∀ E F, jEb E F → ∀ st : List Int, st.length + m ≤ 64 → ∃ v, -1000000 ≤ v ∧ v ≤ 1000000 ∧ jrun E F l st = some (v :: st)
def jsgB (m : Nat) (l : List Int) : Prop := ∀ E F, jEb E F → ∀ st : List Int, st.length + m ≤ 64 → ∃ v, (v = 0 ∨ v = 1) ∧ jrun E F l st = some (v :: st)
theorem jrun_app {E : Nat → Int} {F : Int → Int} : ∀ (l1 l2 st : List Int), jrun E F (l1 ++ l2) st = match jrun E F l1 st with
    | some st' => jrun E F l2 st'
    | none => none := by
  intro l1
  induction l1 with
  | nil => intro l2 st; rfl
  | cons s l ih =>
    intro l2 st
    show (match jsstep E F s st with
      | some st' => jrun E F (l ++ l2) st'
      | none => none) = _
    show _ = match (match jsstep E F s st with
      | some st' => jrun E F l st'
      | none => none) with
      | some st' => jrun E F l2 st'
      | none => none
    cases jsstep E F s st with
    | none => rfl
    | some st' => exact ih l2 st'
theorem jseg_m {m m' : Nat} {l : List Int} (h : jseg m l) (hm : m ≤ m') : jseg m' l := fun E F w st hs => h E F w st (by omega)
theorem jsgB_m {m m' : Nat} {l : List Int} (h : jsgB m l) (hm : m ≤ m') : jsgB m' l := fun E F w st hs => h E F w st (by omega)
theorem jsgB_s {m : Nat} {l : List Int} (h : jsgB m l) : jseg m l := fun E F w st hs => by
  obtain ⟨v, h1, h2⟩ := h E F w st hs
  exact ⟨v, by omega, by omega, h2⟩
theorem jseg_num {x : Int} (h : 0 ≤ x ∧ x ≤ 9999) : jseg 1 [x] := fun E F w st hs => by
  refine ⟨x, by omega, by omega, ?_⟩
  show (match jsstep E F x st with
    | some st' => jrun E F [] st'
    | none => none) = _
  unfold jsstep
  rw [if_pos h.1, if_pos ⟨by omega, h.2⟩]
  rfl
theorem jsgB_1 : jsgB 1 [1] := fun E F w st hs => by
  refine ⟨1, Or.inr rfl, ?_⟩
  show (match jsstep E F 1 st with
    | some st' => jrun E F [] st'
    | none => none) = _
  unfold jsstep
  rw [if_pos (by omega), if_pos ⟨by omega, by omega⟩]
  rfl
theorem jseg_fact {x : Int} (h : -7 ≤ x ∧ x < 0) : jseg 1 [x] := fun E F w st hs => by
  have := w.1 (-1 - x).toNat
  refine ⟨E (-1 - x).toNat, by omega, by omega, ?_⟩
  show (match jsstep E F x st with
    | some st' => jrun E F [] st'
    | none => none) = _
  unfold jsstep
  rw [if_neg (by omega), if_pos h.1, if_pos (by omega)]
  rfl
theorem jjoin_t {s a b : Int} (hs : -19 ≤ s ∧ s ≤ -11) : ∃ v, jjoin s a b = some v := by
  unfold jjoin
  have : s = -11 ∨ s = -12 ∨ s = -13 ∨ s = -14 ∨ s = -15 ∨ s = -16 ∨ s = -17 ∨ s = -18 ∨ s = -19 := by omega
  rcases this with rfl | rfl | rfl | rfl | rfl | rfl | rfl | rfl | rfl <;> exact ⟨_, rfl⟩
theorem jrun_join {E : Nat → Int} {F : Int → Int} {s a b v : Int} {st : List Int} (hs : -21 ≤ s ∧ s ≤ -11) (e : jjoin s a b = some v) : jrun E F [s] (b :: a :: st) = some (v :: st) := by
  show (match jsstep E F s (b :: a :: st) with
    | some st' => jrun E F [] st'
    | none => none) = _
  unfold jsstep
  rw [if_neg (by omega), if_neg (by omega), if_neg (by omega), if_neg (by omega)]
  dsimp only
  rw [e]
  rfl
theorem jseg_join {m1 m2 : Nat} {l1 l2 : List Int} {s : Int} (h1 : jseg m1 l1) (h2 : jseg m2 l2) (hs : -19 ≤ s ∧ s ≤ -11) : jseg (max m1 (m2 + 1)) (l1 ++ (l2 ++ [s])) := fun E F w st hl => by
  obtain ⟨a, a1, a2, a3⟩ := h1 E F w st (by omega)
  obtain ⟨b, b1, b2, b3⟩ := h2 E F w (a :: st) (by simp only [List.length_cons]; omega)
  obtain ⟨v, hv⟩ := jjoin_t (a := a) (b := b) hs
  have vb := jjoin_b ⟨a1, a2⟩ ⟨b1, b2⟩ hv
  refine ⟨v, vb.1, vb.2, ?_⟩
  rw [jrun_app, a3]
  dsimp only
  rw [jrun_app, b3]
  dsimp only
  exact jrun_join (by omega) hv
theorem jsgB_cmp {m1 m2 : Nat} {l1 l2 : List Int} {s : Int} (h1 : jseg m1 l1) (h2 : jseg m2 l2) (hs : -19 ≤ s ∧ s ≤ -17) : jsgB (max m1 (m2 + 1)) (l1 ++ (l2 ++ [s])) := fun E F w st hl => by
  obtain ⟨a, a1, a2, a3⟩ := h1 E F w st (by omega)
  obtain ⟨b, b1, b2, b3⟩ := h2 E F w (a :: st) (by simp only [List.length_cons]; omega)
  obtain ⟨v, hv, hb⟩ : ∃ v, jjoin s a b = some v ∧ (v = 0 ∨ v = 1) := by
    have : s = -17 ∨ s = -18 ∨ s = -19 := by omega
    rcases this with rfl | rfl | rfl
    · refine ⟨jbool (decide (a < b)), rfl, ?_⟩
      unfold jbool; split <;> omega
    · refine ⟨jbool (decide (b < a)), rfl, ?_⟩
      unfold jbool; split <;> omega
    · refine ⟨jbool (decide (a = b)), rfl, ?_⟩
      unfold jbool; split <;> omega
  refine ⟨v, hb, ?_⟩
  rw [jrun_app, a3]
  dsimp only
  rw [jrun_app, b3]
  dsimp only
  exact jrun_join (by omega) hv
theorem jsgB_bool {m1 m2 : Nat} {l1 l2 : List Int} {s : Int} (h1 : jsgB m1 l1) (h2 : jsgB m2 l2) (hs : s = -20 ∨ s = -21) : jsgB (max m1 (m2 + 1)) (l1 ++ (l2 ++ [s])) := fun E F w st hl => by
  obtain ⟨a, a1, a3⟩ := h1 E F w st (by omega)
  obtain ⟨b, b1, b3⟩ := h2 E F w (a :: st) (by simp only [List.length_cons]; omega)
  obtain ⟨v, hv, hb⟩ : ∃ v, jjoin s a b = some v ∧ (v = 0 ∨ v = 1) := by
    rcases hs with rfl | rfl <;> rcases a1 with rfl | rfl <;> rcases b1 with rfl | rfl
    · exact ⟨0, rfl, Or.inl rfl⟩
    · exact ⟨0, rfl, Or.inl rfl⟩
    · exact ⟨0, rfl, Or.inl rfl⟩
    · exact ⟨1, rfl, Or.inr rfl⟩
    · exact ⟨0, rfl, Or.inl rfl⟩
    · exact ⟨1, rfl, Or.inr rfl⟩
    · exact ⟨1, rfl, Or.inr rfl⟩
    · exact ⟨1, rfl, Or.inr rfl⟩
  refine ⟨v, hb, ?_⟩
  rw [jrun_app, a3]
  dsimp only
  rw [jrun_app, b3]
  dsimp only
  exact jrun_join (by omega) hv
theorem jseg_far {m : Nat} {l : List Int} (h : jseg m l) : jseg m (l ++ [-23]) := fun E F w st hl => by
  obtain ⟨a, a1, a2, a3⟩ := h E F w st hl
  have := w.2 a
  refine ⟨F a, by omega, by omega, ?_⟩
  rw [jrun_app, a3]
  rfl
theorem jsgB_not {m : Nat} {l : List Int} (h : jsgB m l) : jsgB m (l ++ [-22]) := fun E F w st hl => by
  obtain ⟨a, a1, a3⟩ := h E F w st hl
  refine ⟨1 - a, by omega, ?_⟩
  rw [jrun_app, a3]
  dsimp only
  rcases a1 with rfl | rfl <;> rfl
/-- which of the words of a SUM stands here -/
def xQw (n : Nat) (T : Nat → Nat) (e : Int) (s : Nat) : Int := if xHas n T e s (xw 15) = true then 0 else if xHas n T e s (xw 8) = true then 1 else if xHas n T e s (xw 6) = true then 2 else if xHas n T e s (xw 16) = true then 3 else if xHas n T e s (xw 17) = true then 4 else if xHas n T e s (xw 18) = true then 5 else if xHas n T e s (xw 5) = true then 6 else if xHas n T e s (xw 9) = true then 7 else -1
def xqw (q : Nat) : Nat := [15, 8, 6, 16, 17, 18, 5, 9].getD q 0
def xfa (q : Nat) : Int := [6, 4, 3, 5, 0, 1, 2].getD q 0
theorem xMw_q : (List.range 8).all (fun q => decide (xqw q < 31 ∧ (jsh (165 + q)).2 = (xw (xqw q)).length ∧ (165 + q, xw (xqw q)) ∈ jwtab)) = true := by decide +kernel
theorem xMw_qw {q : Nat} (hq : q < 8) : xMw (165 + q) (xqw q) := by
  have := of_decide_eq_true (List.all_eq_true.mp xMw_q q (List.mem_range.mpr hq))
  exact this
theorem xMw_x : (List.range 14).all (fun i => decide ([25, 26, 27, 28, 29, 30, 21, 20, 19, 22, 23, 24].getD i 0 < 31 ∧ (12 ≤ i ∨ ((jsh (153 + i)).2 = (xw ([25, 26, 27, 28, 29, 30, 21, 20, 19, 22, 23, 24].getD i 0)).length ∧ (153 + i, xw ([25, 26, 27, 28, 29, 30, 21, 20, 19, 22, 23, 24].getD i 0)) ∈ jwtab)))) = true := by decide +kernel
theorem xMw_xw {i : Nat} (hi : i < 12) : xMw (153 + i) ([25, 26, 27, 28, 29, 30, 21, 20, 19, 22, 23, 24].getD i 0) := by
  have := of_decide_eq_true (List.all_eq_true.mp xMw_x i (List.mem_range.mpr (by omega)))
  exact ⟨this.1, this.2.resolve_left (by omega)⟩
section XQ
variable {n : Nat} {T : Nat → Nat} {e : Int} {s b o : Nat} {a md : Int} {W C L : List Int} {h : jH} {f pl : Int}
theorem xHas_uq {v w : List Nat} (h1 : xHas n T e s v = true) (h2 : xHas n T e s w = true) : v = w := by
  obtain ⟨⟨-, -, a1⟩, a2⟩ := xHas_iff.mp h1
  obtain ⟨⟨-, -, b1⟩, b2⟩ := xHas_iff.mp h2
  have hl : v.length = w.length := by omega
  refine List.ext_getElem hl (fun i hi1 hi2 => ?_)
  have c1 := a2 i hi1
  have c2 := b2 i hi2
  rw [c1] at c2
  simpa [hi1, hi2] using c2
theorem xQw_ok (q : Nat) (hq : q < 8) : xQw n T e s = q ↔ xHas n T e s (xw (xqw q)) = true := by
  constructor
  · intro h9
    unfold xQw at h9
    by_cases c0 : xHas n T e s (xw 15) = true
    · rw [if_pos c0] at h9
      obtain rfl : q = 0 := by omega
      exact c0
    rw [if_neg c0] at h9
    by_cases c1 : xHas n T e s (xw 8) = true
    · rw [if_pos c1] at h9
      obtain rfl : q = 1 := by omega
      exact c1
    rw [if_neg c1] at h9
    by_cases c2 : xHas n T e s (xw 6) = true
    · rw [if_pos c2] at h9
      obtain rfl : q = 2 := by omega
      exact c2
    rw [if_neg c2] at h9
    by_cases c3 : xHas n T e s (xw 16) = true
    · rw [if_pos c3] at h9
      obtain rfl : q = 3 := by omega
      exact c3
    rw [if_neg c3] at h9
    by_cases c4 : xHas n T e s (xw 17) = true
    · rw [if_pos c4] at h9
      obtain rfl : q = 4 := by omega
      exact c4
    rw [if_neg c4] at h9
    by_cases c5 : xHas n T e s (xw 18) = true
    · rw [if_pos c5] at h9
      obtain rfl : q = 5 := by omega
      exact c5
    rw [if_neg c5] at h9
    by_cases c6 : xHas n T e s (xw 5) = true
    · rw [if_pos c6] at h9
      obtain rfl : q = 6 := by omega
      exact c6
    rw [if_neg c6] at h9
    by_cases c7 : xHas n T e s (xw 9) = true
    · rw [if_pos c7] at h9
      obtain rfl : q = 7 := by omega
      exact c7
    rw [if_neg c7] at h9
    omega
  · intro y
    have hne : ∀ i, i < 31 → i ≠ xqw q → ¬ xHas n T e s (xw i) = true := by
      intro i hi hi2 z
      have := xHas_uq y z
      have tb : (List.range 31).all (fun i => (List.range 31).all (fun j => decide (xw i = xw j → i = j))) = true := by decide +kernel
      have hx : xqw q < 31 := (xMw_qw hq).1
      have h2 := of_decide_eq_true (List.all_eq_true.mp (List.all_eq_true.mp tb (xqw q) (List.mem_range.mpr hx)) i (List.mem_range.mpr hi)) this
      exact hi2 h2.symm
    unfold xQw
    have : q = 0 ∨ q = 1 ∨ q = 2 ∨ q = 3 ∨ q = 4 ∨ q = 5 ∨ q = 6 ∨ q = 7 := by omega
    rcases this with rfl | rfl | rfl | rfl | rfl | rfl | rfl | rfl
    · rw [if_pos (show xHas n T e s (xw 15) = true from y)]; rfl
    · rw [if_neg (hne 15 (by omega) (by decide)), if_pos (show xHas n T e s (xw 8) = true from y)]; rfl
    · rw [if_neg (hne 15 (by omega) (by decide)), if_neg (hne 8 (by omega) (by decide)), if_pos (show xHas n T e s (xw 6) = true from y)]; rfl
    · rw [if_neg (hne 15 (by omega) (by decide)), if_neg (hne 8 (by omega) (by decide)), if_neg (hne 6 (by omega) (by decide)), if_pos (show xHas n T e s (xw 16) = true from y)]; rfl
    · rw [if_neg (hne 15 (by omega) (by decide)), if_neg (hne 8 (by omega) (by decide)), if_neg (hne 6 (by omega) (by decide)), if_neg (hne 16 (by omega) (by decide)), if_pos (show xHas n T e s (xw 17) = true from y)]; rfl
    · rw [if_neg (hne 15 (by omega) (by decide)), if_neg (hne 8 (by omega) (by decide)), if_neg (hne 6 (by omega) (by decide)), if_neg (hne 16 (by omega) (by decide)), if_neg (hne 17 (by omega) (by decide)), if_pos (show xHas n T e s (xw 18) = true from y)]; rfl
    · rw [if_neg (hne 15 (by omega) (by decide)), if_neg (hne 8 (by omega) (by decide)), if_neg (hne 6 (by omega) (by decide)), if_neg (hne 16 (by omega) (by decide)), if_neg (hne 17 (by omega) (by decide)), if_neg (hne 18 (by omega) (by decide)), if_pos (show xHas n T e s (xw 5) = true from y)]; rfl
    · rw [if_neg (hne 15 (by omega) (by decide)), if_neg (hne 8 (by omega) (by decide)), if_neg (hne 6 (by omega) (by decide)), if_neg (hne 16 (by omega) (by decide)), if_neg (hne 17 (by omega) (by decide)), if_neg (hne 18 (by omega) (by decide)), if_neg (hne 5 (by omega) (by decide)), if_pos (show xHas n T e s (xw 9) = true from y)]; rfl
theorem xQw_b : -1 ≤ xQw n T e s ∧ xQw n T e s ≤ 7 := by
  unfold xQw
  repeat' split
  all_goals omega
theorem sM_qWordHere0 (R : mL n T e s h) : fM_qWordHere h = some (jz (xQw n T e s), h) := by
  unfold fM_qWordHere xQw
  rw [show fM_isHere 165 h = _ from sM_here0 R (xMw_qw (q := 0) (by omega)), Option.bind_some]
  by_cases c0 : xHas n T e s (xw 15) = true
  · rw [if_pos (show xHas n T e s (xw (xqw 0)) = true from c0), if_neg (show ¬ (1 : Int32) = 0 by decide), if_pos c0]
    rfl
  rw [if_neg (show ¬ xHas n T e s (xw (xqw 0)) = true from c0), if_pos rfl, if_neg c0]
  dsimp only
  rw [show fM_isHere 166 h = _ from sM_here0 R (xMw_qw (q := 1) (by omega)), Option.bind_some]
  by_cases c1 : xHas n T e s (xw 8) = true
  · rw [if_pos (show xHas n T e s (xw (xqw 1)) = true from c1), if_neg (show ¬ (1 : Int32) = 0 by decide), if_pos c1]
    rfl
  rw [if_neg (show ¬ xHas n T e s (xw (xqw 1)) = true from c1), if_pos rfl, if_neg c1]
  dsimp only
  rw [show fM_isHere 167 h = _ from sM_here0 R (xMw_qw (q := 2) (by omega)), Option.bind_some]
  by_cases c2 : xHas n T e s (xw 6) = true
  · rw [if_pos (show xHas n T e s (xw (xqw 2)) = true from c2), if_neg (show ¬ (1 : Int32) = 0 by decide), if_pos c2]
    rfl
  rw [if_neg (show ¬ xHas n T e s (xw (xqw 2)) = true from c2), if_pos rfl, if_neg c2]
  dsimp only
  rw [show fM_isHere 168 h = _ from sM_here0 R (xMw_qw (q := 3) (by omega)), Option.bind_some]
  by_cases c3 : xHas n T e s (xw 16) = true
  · rw [if_pos (show xHas n T e s (xw (xqw 3)) = true from c3), if_neg (show ¬ (1 : Int32) = 0 by decide), if_pos c3]
    rfl
  rw [if_neg (show ¬ xHas n T e s (xw (xqw 3)) = true from c3), if_pos rfl, if_neg c3]
  dsimp only
  rw [show fM_isHere 169 h = _ from sM_here0 R (xMw_qw (q := 4) (by omega)), Option.bind_some]
  by_cases c4 : xHas n T e s (xw 17) = true
  · rw [if_pos (show xHas n T e s (xw (xqw 4)) = true from c4), if_neg (show ¬ (1 : Int32) = 0 by decide), if_pos c4]
    rfl
  rw [if_neg (show ¬ xHas n T e s (xw (xqw 4)) = true from c4), if_pos rfl, if_neg c4]
  dsimp only
  rw [show fM_isHere 170 h = _ from sM_here0 R (xMw_qw (q := 5) (by omega)), Option.bind_some]
  by_cases c5 : xHas n T e s (xw 18) = true
  · rw [if_pos (show xHas n T e s (xw (xqw 5)) = true from c5), if_neg (show ¬ (1 : Int32) = 0 by decide), if_pos c5]
    rfl
  rw [if_neg (show ¬ xHas n T e s (xw (xqw 5)) = true from c5), if_pos rfl, if_neg c5]
  dsimp only
  rw [show fM_isHere 171 h = _ from sM_here0 R (xMw_qw (q := 6) (by omega)), Option.bind_some]
  by_cases c6 : xHas n T e s (xw 5) = true
  · rw [if_pos (show xHas n T e s (xw (xqw 6)) = true from c6), if_neg (show ¬ (1 : Int32) = 0 by decide), if_pos c6]
    rfl
  rw [if_neg (show ¬ xHas n T e s (xw (xqw 6)) = true from c6), if_pos rfl, if_neg c6]
  dsimp only
  rw [show fM_isHere 172 h = _ from sM_here0 R (xMw_qw (q := 7) (by omega)), Option.bind_some]
  by_cases c7 : xHas n T e s (xw 9) = true
  · rw [if_pos (show xHas n T e s (xw (xqw 7)) = true from c7), if_neg (show ¬ (1 : Int32) = 0 by decide), if_pos c7]
    rfl
  rw [if_neg (show ¬ xHas n T e s (xw (xqw 7)) = true from c7), if_pos rfl, if_neg c7]
  dsimp only
  rfl
theorem sM_qWordOf0 {lo hi : Int} (R : mL n T e s h) (h49 : h.1 110 49 = jz (1 - md)) (hmd : md = 0 ∨ md = 1) (hlo : 0 ≤ lo ∧ lo ≤ 100) (hhi : 0 ≤ hi ∧ hi ≤ 100) : fM_qWordOf (jz lo) (jz hi) h = some (jz (if lo ≤ xQw n T e s ∧ xQw n T e s < hi ∧ (md = 1 ∨ xQw n T e s < 4) then xQw n T e s else -1), h) := by
  have qb := xQw_b (n := n) (T := T) (e := e) (s := s)
  unfold fM_qWordOf
  rw [sM_qWordHere0 R, Option.bind_some]
  dsimp only
  generalize xQw n T e s = q at *
  have al : fM_isAllowed (jz q) h = if md = 1 ∨ q < 4 then 1 else 0 := by
    unfold fM_isAllowed
    rw [h49]
    rcases hmd with rfl | rfl
    · rw [if_neg (by decide)]
      by_cases c : q < 4
      · rw [if_pos (by rw [show (4 : Int32) = jz 4 from rfl, jz_lt (by omega) (by omega) (by omega) (by omega)]; exact c), if_pos (Or.inr c)]
      · rw [if_neg (by rw [show (4 : Int32) = jz 4 from rfl, jz_lt (by omega) (by omega) (by omega) (by omega)]; exact c), if_neg (by omega)]
    · rw [if_pos (by decide), if_pos (Or.inl rfl)]
  rw [al]
  by_cases c1 : q < lo
  · rw [if_pos (by rw [jz_lt (by omega) (by omega) (by omega) (by omega)]; exact c1), if_neg (by omega)]; rfl
  · rw [if_neg (by rw [jz_lt (by omega) (by omega) (by omega) (by omega)]; exact c1)]
    by_cases c2 : q < hi
    · rw [if_pos (by rw [jz_lt (by omega) (by omega) (by omega) (by omega)]; exact c2)]
      by_cases c3 : md = 1 ∨ q < 4
      · rw [if_pos c3, if_neg (show ¬ (1 : Int32) = 0 by decide), if_pos ⟨by omega, c2, c3⟩]
      · rw [if_neg c3, if_pos rfl, if_neg (fun t => c3 t.2.2)]; rfl
    · rw [if_neg (by rw [jz_lt (by omega) (by omega) (by omega) (by omega)]; exact c2), if_neg (by omega)]; rfl
theorem sM_qAsksWord {q : Nat} (R : mR n T e s h) (hq : q < 8) (y : xHas n T e s (xw (xqw q)) = true) : ∃ h', fM_qAsksWord (jz q) h = some h' ∧ mR n T (xRun n T xL s) (xSk n T (xRun n T xL s)) h' ∧ eFr xm h h' := by
  obtain ⟨h', q1, q2, q3⟩ := (sM_asks R (xMw_qw hq)).2 y
  refine ⟨h', ?_, q2, q3⟩
  unfold fM_qAsksWord
  have : q = 0 ∨ q = 1 ∨ q = 2 ∨ q = 3 ∨ q = 4 ∨ q = 5 ∨ q = 6 ∨ q = 7 := by omega
  rcases this with rfl | rfl | rfl | rfl | rfl | rfl | rfl | rfl
  · rw [if_pos (by decide), show fM_asks 165 h = some h' from q1]; rfl
  · rw [if_neg (by decide), if_pos (by decide), show fM_asks 166 h = some h' from q1]; rfl
  · rw [if_neg (by decide), if_neg (by decide), if_pos (by decide), show fM_asks 167 h = some h' from q1]; rfl
  · rw [if_neg (by decide), if_neg (by decide), if_neg (by decide), if_pos (by decide), show fM_asks 168 h = some h' from q1]; rfl
  · rw [if_neg (by decide), if_neg (by decide), if_neg (by decide), if_neg (by decide), if_pos (by decide), show fM_asks 169 h = some h' from q1]; rfl
  · rw [if_neg (by decide), if_neg (by decide), if_neg (by decide), if_neg (by decide), if_neg (by decide), if_pos (by decide), show fM_asks 170 h = some h' from q1]; rfl
  · rw [if_neg (by decide), if_neg (by decide), if_neg (by decide), if_neg (by decide), if_neg (by decide), if_neg (by decide), if_pos (by decide), show fM_asks 171 h = some h' from q1]; rfl
  · rw [if_neg (by decide), if_neg (by decide), if_neg (by decide), if_neg (by decide), if_neg (by decide), if_neg (by decide), if_neg (by decide), show fM_asks 172 h = some h' from q1]; rfl
theorem sFo_rfact (R : cR n T e s h) (O : cO o L md h) (hmd : md = 0 ∨ md = 1) : (0 ≤ xQw n T e s ∧ xQw n T e s < 7 ∧ (md = 1 ∨ xQw n T e s < 4) → ∃ h', fFo_factThatStands o h = jz (xfa (xQw n T e s).toNat) ∧ fRd_step h = some h' ∧ cR n T (xRun n T xL s) (xSk n T (xRun n T xL s)) h' ∧ eFr x6 h h') ∧ (¬ (0 ≤ xQw n T e s ∧ xQw n T e s < 7 ∧ (md = 1 ∨ xQw n T e s < 4)) → fFo_factThatStands o h = -1) := by
  have o3 := O.2.2.1
  have sw : ∀ i, i < 31 → fRd_standsWord (1000 + i) h = if xHas n T e s (xw i) = true then jz 1 else jz 0 := fun i hi => sRd_word R hi
  have stp : ∀ i, i < 31 → xHas n T e s (xw i) = true → ∃ h', fRd_step h = some h' ∧ cR n T (xRun n T xL s) (xSk n T (xRun n T xL s)) h' ∧ eFr x6 h h' := fun i hi y => by
    obtain ⟨w1, w2, w3, w4⟩ := xw_ok hi
    have cl := xHas_L w1 w4 y
    obtain ⟨⟨c0, ce, -⟩, -⟩ := xHas_iff.mp y
    exact sRd_stepL R c0 cl ce
  unfold fFo_factThatStands xQw
  by_cases c0 : xHas n T e s (xw 15) = true
  · obtain ⟨h', p1, p2, p3⟩ := stp 15 (by omega) c0
    simp only [if_pos c0]
    refine ⟨fun _ => ⟨h', ?_, p1, p2, p3⟩, fun t => absurd ⟨by omega, by omega, by omega⟩ t⟩
    rw [show fRd_standsWord 1015 h = _ from sw 15 (by omega), if_pos c0, if_neg (show ¬ jz 1 = 0 by decide)]
    rfl
  simp only [if_neg c0]
  rw [show fRd_standsWord 1015 h = _ from sw 15 (by omega), if_neg c0, if_pos (show jz 0 = 0 from rfl)]
  by_cases c1 : xHas n T e s (xw 8) = true
  · obtain ⟨h', p1, p2, p3⟩ := stp 8 (by omega) c1
    simp only [if_pos c1]
    refine ⟨fun _ => ⟨h', ?_, p1, p2, p3⟩, fun t => absurd ⟨by omega, by omega, by omega⟩ t⟩
    rw [show fRd_standsWord 1008 h = _ from sw 8 (by omega), if_pos c1, if_neg (show ¬ jz 1 = 0 by decide)]
    rfl
  simp only [if_neg c1]
  rw [show fRd_standsWord 1008 h = _ from sw 8 (by omega), if_neg c1, if_pos (show jz 0 = 0 from rfl)]
  by_cases c2 : xHas n T e s (xw 6) = true
  · obtain ⟨h', p1, p2, p3⟩ := stp 6 (by omega) c2
    simp only [if_pos c2]
    refine ⟨fun _ => ⟨h', ?_, p1, p2, p3⟩, fun t => absurd ⟨by omega, by omega, by omega⟩ t⟩
    rw [show fRd_standsWord 1006 h = _ from sw 6 (by omega), if_pos c2, if_neg (show ¬ jz 1 = 0 by decide)]
    rfl
  simp only [if_neg c2]
  rw [show fRd_standsWord 1006 h = _ from sw 6 (by omega), if_neg c2, if_pos (show jz 0 = 0 from rfl)]
  by_cases c3 : xHas n T e s (xw 16) = true
  · obtain ⟨h', p1, p2, p3⟩ := stp 16 (by omega) c3
    simp only [if_pos c3]
    refine ⟨fun _ => ⟨h', ?_, p1, p2, p3⟩, fun t => absurd ⟨by omega, by omega, by omega⟩ t⟩
    rw [show fRd_standsWord 1016 h = _ from sw 16 (by omega), if_pos c3, if_neg (show ¬ jz 1 = 0 by decide)]
    rfl
  simp only [if_neg c3]
  rw [show fRd_standsWord 1016 h = _ from sw 16 (by omega), if_neg c3, if_pos (show jz 0 = 0 from rfl)]
  unfold fFo_factThatStands_j68 fFo_factThatStands_j87
  rw [o3]
  rcases hmd with rfl | rfl
  · rw [if_pos (show jz 0 = 0 from rfl), if_pos (show jz 0 = 0 from rfl), if_pos (show jz 0 = 0 from rfl)]
    refine ⟨fun t => ?_, fun _ => rfl⟩
    exfalso
    obtain ⟨t1, t2, t3⟩ := t
    have t4 := t3.resolve_left (by omega)
    revert t1 t4
    repeat' split
    all_goals omega
  rw [if_neg (show ¬ jz 1 = 0 by decide)]
  by_cases c4 : xHas n T e s (xw 17) = true
  · obtain ⟨h', p1, p2, p3⟩ := stp 17 (by omega) c4
    simp only [if_pos c4]
    refine ⟨fun _ => ⟨h', ?_, p1, p2, p3⟩, fun t => absurd ⟨by omega, by omega, by simp⟩ t⟩
    rw [show fRd_standsWord 1017 h = _ from sw 17 (by omega), if_pos c4, if_neg (show ¬ jz 1 = 0 by decide)]
    rfl
  simp only [if_neg c4]
  rw [show fRd_standsWord 1017 h = _ from sw 17 (by omega), if_neg c4, if_pos (show jz 0 = 0 from rfl)]
  rw [if_neg (show ¬ jz 1 = 0 by decide)]
  by_cases c5 : xHas n T e s (xw 18) = true
  · obtain ⟨h', p1, p2, p3⟩ := stp 18 (by omega) c5
    simp only [if_pos c5]
    refine ⟨fun _ => ⟨h', ?_, p1, p2, p3⟩, fun t => absurd ⟨by omega, by omega, by simp⟩ t⟩
    rw [show fRd_standsWord 1018 h = _ from sw 18 (by omega), if_pos c5, if_neg (show ¬ jz 1 = 0 by decide)]
    rfl
  simp only [if_neg c5]
  rw [show fRd_standsWord 1018 h = _ from sw 18 (by omega), if_neg c5, if_pos (show jz 0 = 0 from rfl)]
  rw [if_neg (show ¬ jz 1 = 0 by decide)]
  by_cases c6 : xHas n T e s (xw 5) = true
  · obtain ⟨h', p1, p2, p3⟩ := stp 5 (by omega) c6
    simp only [if_pos c6]
    refine ⟨fun _ => ⟨h', ?_, p1, p2, p3⟩, fun t => absurd ⟨by omega, by omega, by simp⟩ t⟩
    rw [show fRd_standsWord 1005 h = _ from sw 5 (by omega), if_pos c6, if_neg (show ¬ jz 1 = 0 by decide)]
    rfl
  simp only [if_neg c6]
  rw [show fRd_standsWord 1005 h = _ from sw 5 (by omega), if_neg c6, if_pos (show jz 0 = 0 from rfl)]
  refine ⟨fun t => ?_, fun _ => rfl⟩
  exfalso
  obtain ⟨t1, t2, -⟩ := t
  revert t1 t2
  split <;> omega
end XQ
