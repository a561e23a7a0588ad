/-! what the class's Reader takes -/
/-- the 31 words, letters -/
def xwt : List (List Nat) := [[115, 101, 97, 116, 115], [98, 101, 110, 99, 104], [112, 108, 97, 116, 101], [108, 97, 99, 107], [103, 117, 101, 115, 116], [99, 111, 109, 101, 115], [106, 111, 121], [119, 105, 116, 104], [115, 108, 105, 103, 104, 116], [112, 117, 108, 108, 115], [104, 101, 97, 114, 115], [108, 97, 116, 101], [109, 97, 121, 98, 101], [115, 111, 111, 110], [109, 111, 114, 101], [119, 101, 101, 107, 115], [115, 105, 122, 101], [110, 117, 109, 98, 101, 114], [104, 111, 119], [111, 114], [97, 110, 100], [110, 111, 116], [97, 108, 108], [109, 105, 110], [109, 97, 120], [102, 105, 114, 115, 116], [108, 97, 115, 116], [111, 102, 116, 101, 110], [116, 111, 116, 97, 108], [109, 111, 115, 116], [108, 101, 97, 115, 116]]
def xw (i : Nat) : List Nat := xwt.getD i []
theorem xw_t : (List.range 31).all (fun i => decide (1 ≤ (xw i).length ∧ (xw i).length ≤ 6 ∧ jwc (1000 + i) 0 = jz ((xPk (fun k => (xw i).getD k 0) 0 (xw i).length : Nat) : Int)) && (List.range (xw i).length).all (fun k => xL ((xw i).getD k 0))) = true := by decide +kernel
theorem xw_ok {i : Nat} (hi : i < 31) : 1 ≤ (xw i).length ∧ (xw i).length ≤ 6 ∧ jwc (1000 + i) 0 = jz ((xPk (fun k => (xw i).getD k 0) 0 (xw i).length : Nat) : Int) ∧ ∀ k, k < (xw i).length → xL ((xw i).getD k 0) = true := by
  have h1 := List.all_eq_true.mp xw_t i (List.mem_range.mpr hi)
  rw [Bool.and_eq_true] at h1
  obtain ⟨h2, h3⟩ := h1
  obtain ⟨a, b, c⟩ := of_decide_eq_true h2
  exact ⟨a, b, c, fun k hk => List.all_eq_true.mp h3 k (List.mem_range.mpr hk)⟩
/-- word w stands at s, and may stand there -/
def xHas (n : Nat) (T : Nat → Nat) (e : Int) (s : Nat) (w : List Nat) : Bool := decide (s < n ∧ (s : Int) ≠ e ∧ xRun n T xL s - s = w.length) && (List.range w.length).all (fun i => T (s + i) == w.getD i 0)
theorem xHas_iff {n : Nat} {T : Nat → Nat} {e : Int} {s : Nat} {w : List Nat} : xHas n T e s w = true ↔ (s < n ∧ (s : Int) ≠ e ∧ xRun n T xL s - s = w.length) ∧ ∀ i, i < w.length → T (s + i) = w.getD i 0 := by
  unfold xHas
  rw [Bool.and_eq_true, decide_eq_true_iff, List.all_eq_true]
  constructor
  · rintro ⟨a, b⟩
    exact ⟨a, fun i hi => by simpa using b i (List.mem_range.mpr hi)⟩
  · rintro ⟨a, b⟩
    exact ⟨a, fun i hi => by simpa using b i (List.mem_range.mp hi)⟩
/-- a fault was told -/
def cF (f pl : Int) (h : jH) : Prop := 1 ≤ f ∧ f ≤ 5 ∧ h.1 6 5 = jz f ∧ h.1 6 6 = jz pl ∧ h.1 6 3 = jz 5
section XT
variable {n : Nat} {T : Nat → Nat} {e : Int} {s : Nat} {h : jH} {f pl : Int}
theorem cR_fr {h' : jH} (R : cR n T e s h) (a : ∀ o k, o = 2 ∨ o = 3 ∨ o = 6 → h'.1 o k = h.1 o k) : cR n T e s h' := by
  obtain ⟨r1, r2, r3, r4⟩ := R
  refine ⟨xTc_fr r1 (fun o k hk => a o k (by omega)), r2, r3, ?_⟩
  simp (disch := omega) only [a]
  exact r4
theorem cF_fr {h' : jH} (R : cF f pl h) (a : ∀ k, h'.1 6 k = h.1 6 k) : cF f pl h' := by
  unfold cF at *
  simp only [a]
  exact R
theorem xKd_b : 0 ≤ xKd n T e s ∧ xKd n T e s ≤ 4 := by
  unfold xKd
  repeat' split
  all_goals omega
theorem sRd_failR (R : cR n T e s h) (hf : 1 ≤ f ∧ f ≤ 5) : cF f pl (fRd_fail (jz f) (jz pl) h) ∧ eFr x6 h (fRd_fail (jz f) (jz pl) h) := by
  have r5 := R.2.2.2.2.2.2.2.1
  unfold fRd_fail fRd_fail_j17
  rw [r5, if_pos (show jz 0 = 0 from rfl)]
  refine ⟨⟨hf.1, hf.2, ?_, ?_, ?_⟩, x6_I (x6_I (x6_I (eFr_refl _ _) _) _) _⟩
  · rw [jhI_1, if_neg (by omega), jhI_1, if_neg (by omega), jhI_1, if_pos ⟨rfl, rfl⟩]
  · rw [jhI_1, if_neg (by omega), jhI_1, if_pos ⟨rfl, rfl⟩]
  · rfl
theorem sRd_failF (R : cF f pl h) (a b : Int32) : cF f pl (fRd_fail a b h) ∧ eFr x6 h (fRd_fail a b h) := by
  obtain ⟨r1, r2, r3, r4, r5⟩ := R
  unfold fRd_fail fRd_fail_j17
  rw [r3, if_neg (by rw [show (0 : Int32) = jz 0 from rfl, jz_eq (by omega) (by omega) (by omega) (by omega)]; omega)]
  refine ⟨⟨r1, r2, ?_, ?_, rfl⟩, x6_I (eFr_refl _ _) _⟩
  · rw [jhI_1, if_neg (by omega)]; exact r3
  · rw [jhI_1, if_neg (by omega)]; exact r4
theorem sRd_hereR (R : cR n T e s h) (hf : 1 ≤ f ∧ f ≤ 5) : cF f s (fRd_failHere (jz f) h) ∧ eFr x6 h (fRd_failHere (jz f) h) := by
  unfold fRd_failHere
  rw [R.2.2.2.1]
  exact sRd_failR R hf
theorem sRd_hereF (R : cF f pl h) (a : Int32) : cF f pl (fRd_failHere a h) ∧ eFr x6 h (fRd_failHere a h) := by
  unfold fRd_failHere
  exact sRd_failF R _ _
theorem sRd_sign {c : Nat} (R : cR n T e s h) (hc : c < 256) (h1 : xL c = false) (h2 : xD c = false) : fRd_standsSign (jz c) h = if s < n ∧ T s = c then jz 1 else jz 0 := by
  obtain ⟨r1, r2, r3, r4, r5, r6, r7, r8, r9⟩ := R
  have kb := xKd_b (n := n) (T := T) (e := e) (s := s)
  unfold fRd_standsSign
  rw [r6, r7]
  by_cases c0 : s < n
  · have tk := (r1.2.2 s c0).1
    by_cases cl : xL (T s) = true
    · have k3 : ¬ xKd n T e s = 3 := by
        unfold xKd
        rw [if_pos c0, if_pos cl]
        split <;> omega
      rw [if_neg (by rw [show (3 : Int32) = jz 3 from rfl, jz_eq (by omega) (by omega) (by omega) (by omega)]; exact k3), if_neg (by rintro ⟨-, t⟩; rw [t, h1] at cl; cases cl)]
      rfl
    · by_cases cd : xD (T s) = true
      · have k3 : ¬ xKd n T e s = 3 := by
          unfold xKd
          rw [if_pos c0, if_neg cl, if_pos cd]
          split <;> omega
        rw [if_neg (by rw [show (3 : Int32) = jz 3 from rfl, jz_eq (by omega) (by omega) (by omega) (by omega)]; exact k3), if_neg (by rintro ⟨-, t⟩; rw [t, h2] at cd; cases cd)]
        rfl
      · have k3 : xKd n T e s = 3 := by unfold xKd; rw [if_pos c0, if_neg cl, if_neg cd]
        have v3 : xVl n T s = (T s : Int) := by unfold xVl; rw [if_pos c0, if_neg cl, if_neg cd]
        rw [k3, v3, if_pos (show jz 3 = 3 from rfl)]
        by_cases q : T s = c
        · rw [if_pos (by rw [q]), if_pos ⟨c0, q⟩]; rfl
        · rw [if_neg (by rw [jz_eq (by omega) (by omega) (by omega) (by omega)]; omega), if_neg (fun t => q t.2)]; rfl
  · have k3 : xKd n T e s = 0 := by unfold xKd; rw [if_neg c0]
    rw [k3, if_neg (by decide), if_neg (fun t => c0 t.1)]
    rfl
theorem sRd_signF (R : cF f pl h) (c : Int32) : fRd_standsSign c h = 0 := by
  unfold fRd_standsSign
  rw [R.2.2.2.2, if_neg (by decide)]
theorem sRd_wordF (R : cF f pl h) (c : Nat) : fRd_standsWord c h = 0 := by
  unfold fRd_standsWord
  rw [R.2.2.2.2, if_neg (by decide)]
theorem sRd_tsignF (R : cF f pl h) (c : Int32) : fRd_takesSign c h = some (0, h) := by
  unfold fRd_takesSign
  rw [sRd_signF R, if_pos rfl, if_pos (Or.inl rfl)]
theorem sRd_twordF (R : cF f pl h) (c : Nat) : fRd_takesWord c h = some (0, h) := by
  unfold fRd_takesWord
  rw [sRd_wordF R, if_pos rfl, if_pos (Or.inl rfl)]
/-- behind a sign -/
theorem sRd_tsign {c : Nat} (R : cR n T e s h) (hc : c < 256) (h1 : xL c = false) (h2 : xD c = false) (he : e ≤ s) : (¬ (s < n ∧ T s = c) → fRd_takesSign (jz c) h = some (0, h)) ∧ (s < n ∧ T s = c → ∃ h', fRd_takesSign (jz c) h = some (1, h') ∧ cR n T e (xSk n T (s + 1)) h' ∧ eFr x6 h h') := by
  have st := sRd_sign R hc h1 h2
  constructor
  · intro hn
    unfold fRd_takesSign
    rw [st, if_neg hn, if_pos (show jz 0 = 0 from rfl), if_pos (show jz 0 = 0 ∨ jz 0 = 1 from Or.inl rfl)]
    rfl
  · intro hy
    obtain ⟨r1, r2, r3, r4, r5, r6, r7, r8, r9⟩ := R
    have cl : ¬ xL (T s) = true := by rw [hy.2, h1]; decide
    have cd : ¬ xD (T s) = true := by rw [hy.2, h2]; decide
    have k3 : xKd n T e s = 3 := by unfold xKd; rw [if_pos hy.1, if_neg cl, if_neg cd]
    have a3 : xAf n T s = s + 1 := by unfold xAf; rw [if_pos hy.1, if_neg cl, if_neg cd]
    rw [k3] at r6
    rw [a3] at r5
    have sg := xSk_ge (n := n) (T := T) (s := s + 1)
    obtain ⟨h', q1, q2, q3⟩ := sRd_step (e := e) r1 (by omega) r5 r6 (by omega) r8 r9 (by omega) (fun _ => by omega)
    refine ⟨h', ?_, q2, q3⟩
    unfold fRd_takesSign
    rw [st, if_pos hy, if_neg (by decide), q1, Option.bind_some, if_pos (show jz 1 = 0 ∨ jz 1 = 1 from Or.inr rfl)]
    rfl
/-- behind a word or a number -/
theorem xRunL_gt (c0 : s < n) (cl : xL (T s) = true) : s < xRun n T xL s ∧ xRun n T xL s ≤ n := by
  have := xAf_gt (T := T) c0
  unfold xAf at this
  rw [if_pos c0, if_pos cl] at this
  exact this
theorem xHas_L {w : List Nat} (hw : 1 ≤ w.length) (hl : ∀ k, k < w.length → xL (w.getD k 0) = true) (y : xHas n T e s w = true) : xL (T s) = true := by
  obtain ⟨-, y2⟩ := xHas_iff.mp y
  have := y2 0 (by omega)
  rw [Nat.add_zero] at this
  rw [this]
  exact hl 0 (by omega)
theorem xWv_lt : xWv n T s < 1073741824 := by
  unfold xWv
  split
  · rename_i c
    have h1 := xPk_lt (T := T) (s := s) (xRun n T xL s - s) (fun i hi => xRun_in (n := n) (s := s) (by omega) (by omega))
    have h2 := p32_6 c
    omega
  · omega
theorem sRd_word {i : Nat} (R : cR n T e s h) (hi : i < 31) : fRd_standsWord (1000 + i) h = if xHas n T e s (xw i) = true then jz 1 else jz 0 := by
  obtain ⟨w1, w2, w3, w4⟩ := xw_ok hi
  obtain ⟨r1, r2, r3, r4, r5, r6, r7, r8, r9⟩ := R
  have kb := xKd_b (n := n) (T := T) (e := e) (s := s)
  have key : xKd n T e s = 1 ∧ xVl n T s = ((xPk (fun k => (xw i).getD k 0) 0 (xw i).length : Nat) : Int) ↔ xHas n T e s (xw i) = true := by
    constructor
    · rintro ⟨k1, v1⟩
      unfold xKd at k1
      by_cases c0 : s < n
      · rw [if_pos c0] at k1
        by_cases cl : xL (T s) = true
        · rw [if_pos cl] at k1
          have ce : ¬ (s : Int) = e := by
            intro t; rw [if_pos t] at k1; omega
          unfold xVl at v1
          rw [if_pos c0, if_pos cl] at v1
          have v2 : xWv n T s = xPk (fun k => (xw i).getD k 0) 0 (xw i).length := by omega
          unfold xWv at v2
          have ps := xPk_pos (T := fun k => (xw i).getD k 0) (s := 0) (k := (xw i).length) (by omega) (fun k hk => by rw [Nat.zero_add]; exact w4 k hk)
          by_cases c6 : xRun n T xL s - s ≤ 6
          · rw [if_pos c6] at v2
            obtain ⟨q1, q2⟩ := xPk_inj _ _ (fun j hj => xRun_in (n := n) (s := s) (by omega) (by omega)) (fun j hj => by rw [Nat.zero_add]; exact w4 j hj) v2
            refine xHas_iff.mpr ⟨⟨c0, ce, q1⟩, fun j hj => ?_⟩
            have := q2 j (by omega)
            rw [Nat.zero_add] at this
            exact this
          · rw [if_neg c6] at v2
            omega
        · rw [if_neg cl] at k1
          split at k1
          · split at k1 <;> omega
          · omega
      · rw [if_neg c0] at k1
        omega
    · intro y
      have cl := xHas_L w1 w4 y
      obtain ⟨⟨c0, ce, q1⟩, q2⟩ := xHas_iff.mp y
      refine ⟨by unfold xKd; rw [if_pos c0, if_pos cl, if_neg ce], ?_⟩
      unfold xVl xWv
      rw [if_pos c0, if_pos cl, if_pos (by omega), q1]
      exact congrArg (fun x : Nat => (x : Int)) (xPk_congr _ (fun j hj => by rw [Nat.zero_add]; exact q2 j hj))
  unfold fRd_standsWord
  rw [r6, r7, w3]
  have pl := xPk_lt (T := fun k => (xw i).getD k 0) (s := 0) (xw i).length (fun k hk => by rw [Nat.zero_add]; exact w4 k hk)
  have p6 := p32_6 w2
  by_cases y : xHas n T e s (xw i) = true
  · obtain ⟨k1, v1⟩ := key.mpr y
    rw [if_pos y, k1, v1, if_pos (show jz 1 = 1 from rfl), if_pos rfl]
    rfl
  · rw [if_neg y]
    by_cases k1 : xKd n T e s = 1
    · rw [k1, if_pos (show jz 1 = 1 from rfl)]
      have vb : 0 ≤ xVl n T s ∧ xVl n T s < 1073741824 := by
        unfold xKd at k1
        unfold xVl
        by_cases c0 : s < n
        · rw [if_pos c0] at k1 ⊢
          by_cases cl : xL (T s) = true
          · rw [if_pos cl]
            have := xWv_lt (n := n) (T := T) (s := s)
            omega
          · rw [if_neg cl] at k1
            split at k1
            · split at k1 <;> omega
            · omega
        · rw [if_neg c0] at k1; omega
      rw [if_neg (by rw [jz_eq (by omega) (by omega) (by omega) (by omega)]; intro t; exact y (key.mp ⟨k1, t⟩))]
      rfl
    · rw [if_neg (by rw [show (1 : Int32) = jz 1 from rfl, jz_eq (by omega) (by omega) (by omega) (by omega)]; exact k1)]
      rfl
theorem sRd_stepL (R : cR n T e s h) (c0 : s < n) (cl : xL (T s) = true) (ce : (s : Int) ≠ e) : ∃ h', fRd_step h = some h' ∧ cR n T (xRun n T xL s) (xSk n T (xRun n T xL s)) h' ∧ eFr x6 h h' := by
  obtain ⟨r1, r2, r3, r4, r5, r6, r7, r8, r9⟩ := R
  have k1 : xKd n T e s = 1 := by unfold xKd; rw [if_pos c0, if_pos cl, if_neg ce]
  have a3 : xAf n T s = xRun n T xL s := by unfold xAf; rw [if_pos c0, if_pos cl]
  rw [k1] at r6
  rw [a3] at r5
  exact sRd_step r1 (xRunL_gt c0 cl).2 r5 r6 (by omega) r8 r9 (fun _ => rfl) (fun t => absurd (Or.inl rfl) t)
theorem sRd_stepD (R : cR n T e s h) (c0 : s < n) (cd : xD (T s) = true) (ce : (s : Int) ≠ e) : ∃ h', fRd_step h = some h' ∧ cR n T (xRun n T xD s) (xSk n T (xRun n T xD s)) h' ∧ eFr x6 h h' := by
  obtain ⟨r1, r2, r3, r4, r5, r6, r7, r8, r9⟩ := R
  have cl : ¬ xL (T s) = true := fun u => by rw [xL_D u] at cd; cases cd
  have k1 : xKd n T e s = 2 := by unfold xKd; rw [if_pos c0, if_neg cl, if_pos cd, if_neg ce]
  have a3 : xAf n T s = xRun n T xD s := by unfold xAf; rw [if_pos c0, if_neg cl, if_pos cd]
  rw [k1] at r6
  rw [a3] at r5
  have := xAf_gt (T := T) c0
  rw [a3] at this
  exact sRd_step r1 this.2 r5 r6 (by omega) r8 r9 (fun _ => rfl) (fun t => absurd (Or.inr rfl) t)
theorem sRd_tword {i : Nat} (R : cR n T e s h) (hi : i < 31) : (¬ xHas n T e s (xw i) = true → fRd_takesWord (1000 + i) h = some (0, h)) ∧ (xHas n T e s (xw i) = true → ∃ h', fRd_takesWord (1000 + i) h = some (1, h') ∧ cR n T (xRun n T xL s) (xSk n T (xRun n T xL s)) h' ∧ eFr x6 h h') := by
  have st := sRd_word R hi
  obtain ⟨w1, w2, w3, w4⟩ := xw_ok hi
  constructor
  · intro hn
    unfold fRd_takesWord
    rw [st, if_neg hn, if_pos (show jz 0 = 0 from rfl), if_pos (show jz 0 = 0 ∨ jz 0 = 1 from Or.inl rfl)]
    rfl
  · intro hy
    have cl := xHas_L w1 w4 hy
    obtain ⟨⟨c0, ce, -⟩, -⟩ := xHas_iff.mp hy
    obtain ⟨h', q1, q2, q3⟩ := sRd_stepL R c0 cl ce
    refine ⟨h', ?_, q2, q3⟩
    unfold fRd_takesWord
    rw [st, if_pos hy, if_neg (by decide), q1, Option.bind_some, if_pos (show jz 1 = 0 ∨ jz 1 = 1 from Or.inr rfl)]
    rfl
/-- a number stands at s, and may stand there -/
def xNum (n : Nat) (T : Nat → Nat) (e : Int) (s : Nat) : Prop := s < n ∧ xD (T s) = true ∧ (s : Int) ≠ e
theorem sRd_standsN (R : cR n T e s h) : (xNum n T e s → fRd_standsNumber h = 1) ∧ (¬ xNum n T e s → fRd_standsNumber h = 0) := by
  have kb := xKd_b (n := n) (T := T) (e := e) (s := s)
  have r6 := R.2.2.2.2.2.1
  unfold fRd_standsNumber
  rw [r6]
  constructor
  · rintro ⟨c0, cd, ce⟩
    have cl : ¬ xL (T s) = true := fun u => by rw [xL_D u] at cd; cases cd
    have k2 : xKd n T e s = 2 := by unfold xKd; rw [if_pos c0, if_neg cl, if_pos cd, if_neg ce]
    rw [k2, if_pos (show jz 2 = 2 from rfl)]
  · intro hn
    have k2 : ¬ xKd n T e s = 2 := by
      intro k2
      unfold xKd at k2
      by_cases c0 : s < n
      · rw [if_pos c0] at k2
        by_cases cl : xL (T s) = true
        · rw [if_pos cl] at k2
          split at k2 <;> omega
        · rw [if_neg cl] at k2
          by_cases cd : xD (T s) = true
          · rw [if_pos cd] at k2
            by_cases ce : (s : Int) = e
            · rw [if_pos ce] at k2; omega
            · exact hn ⟨c0, cd, ce⟩
          · rw [if_neg cd] at k2; omega
      · rw [if_neg c0] at k2; omega
    rw [if_neg (by rw [show (2 : Int32) = jz 2 from rfl, jz_eq (by omega) (by omega) (by omega) (by omega)]; exact k2)]
theorem sRd_number {m : Nat} (R : cR n T e s h) (hm : m ≤ 9999) : (¬ xNum n T e s → ∃ h', fRd_wantsNumber (jz m) h = some (0, h') ∧ cF 1 s h' ∧ eFr x6 h h') ∧ (xNum n T e s → 4 < xRun n T xD s - s → ∃ h', fRd_wantsNumber (jz m) h = some (0, h') ∧ cF 1 ((s + 4 : Nat) : Int) h' ∧ eFr x6 h h') ∧ (xNum n T e s → ¬ 4 < xRun n T xD s - s → m < xNv n T s → ∃ h', fRd_wantsNumber (jz m) h = some (0, h') ∧ cF 2 s h' ∧ eFr x6 h h') ∧ (xNum n T e s → ¬ 4 < xRun n T xD s - s → ¬ m < xNv n T s → ∃ h', fRd_wantsNumber (jz m) h = some (jz (xNv n T s : Int), h') ∧ cR n T (xRun n T xD s) (xSk n T (xRun n T xD s)) h' ∧ eFr x6 h h') := by
  have sn := sRd_standsN R
  have kb := xKd_b (n := n) (T := T) (e := e) (s := s)
  have hb := R.1.1
  have R0 := R
  obtain ⟨-, r2, -, r4, r5, r6, r7, -⟩ := R0
  have com : xNum n T e s → h.1 6 3 = jz 2 ∧ h.1 6 2 = jz (xRun n T xD s) ∧ h.1 6 4 = jz (xNv n T s : Int) ∧ s < xRun n T xD s ∧ xRun n T xD s ≤ n ∧ xNv n T s ≤ 9999 := by
    rintro ⟨c0, cd, ce⟩
    have cl : ¬ xL (T s) = true := fun u => by rw [xL_D u] at cd; cases cd
    have ag := xAf_gt (T := T) c0
    have k2 : xKd n T e s = 2 := by unfold xKd; rw [if_pos c0, if_neg cl, if_pos cd, if_neg ce]
    have a2 : xAf n T s = xRun n T xD s := by unfold xAf; rw [if_pos c0, if_neg cl, if_pos cd]
    have v2 : xVl n T s = (xNv n T s : Int) := by unfold xVl; rw [if_pos c0, if_neg cl, if_pos cd]
    rw [k2] at r6
    rw [a2] at r5 ag
    rw [v2] at r7
    exact ⟨r6, r5, r7, ag.1, ag.2, xNm_9999 (fun i hi => xRun_in (n := n) (s := s) (by omega) (by omega))⟩
  have e0 : ∀ a b : Nat, a ≤ b → jz (b : Int) - jz (a : Int) = jz ((b - a : Nat) : Int) := fun a b hab => by rw [jz_sub]; congr 1; omega
  refine ⟨fun hn => ?_, fun hy h4 => ?_, fun hy h4 hv => ?_, fun hy h4 hv => ?_⟩
  · have h2 := sRd_hereR R (f := 1) (by omega)
    refine ⟨fRd_failHere 1 h, ?_, h2.1, h2.2⟩
    have s0 := sn.2 hn
    unfold fRd_standsNumber at s0
    unfold fRd_wantsNumber
    by_cases q : h.1 6 3 = 2
    · rw [if_pos q] at s0; exact absurd s0 (by decide)
    · rw [if_neg q]
  · obtain ⟨q1, q2, q3, q4, q5, q6⟩ := com hy
    have h2 := sRd_failR (pl := ((s + 4 : Nat) : Int)) R (f := 1) (by omega)
    refine ⟨_, ?_, h2.1, h2.2⟩
    unfold fRd_wantsNumber
    rw [q1, if_pos (show jz 2 = 2 from rfl), q2, r4, e0 _ _ (by omega), if_pos (by rw [show (4 : Int32) = jz 4 from rfl, jz_lt (by omega) (by omega) (by omega) (by omega)]; omega), show (4 : Int32) = jz 4 from rfl, jz_add]
    rfl
  · obtain ⟨q1, q2, q3, q4, q5, q6⟩ := com hy
    have h2 := sRd_hereR R (f := 2) (by omega)
    refine ⟨_, ?_, h2.1, h2.2⟩
    unfold fRd_wantsNumber
    rw [q1, if_pos (show jz 2 = 2 from rfl), q2, r4, e0 _ _ (by omega), if_neg (by rw [show (4 : Int32) = jz 4 from rfl, jz_lt (by omega) (by omega) (by omega) (by omega)]; omega), q3, if_pos (by rw [jz_lt (by omega) (by omega) (by omega) (by omega)]; omega)]
    rfl
  · obtain ⟨q1, q2, q3, q4, q5, q6⟩ := com hy
    obtain ⟨h', p1, p2, p3⟩ := sRd_stepD R hy.1 hy.2.1 hy.2.2
    refine ⟨h', ?_, p2, p3⟩
    unfold fRd_wantsNumber
    rw [q1, if_pos (show jz 2 = 2 from rfl), q2, r4, e0 _ _ (by omega), if_neg (by rw [show (4 : Int32) = jz 4 from rfl, jz_lt (by omega) (by omega) (by omega) (by omega)]; omega), q3, if_neg (by rw [jz_lt (by omega) (by omega) (by omega) (by omega)]; omega), p1, Option.bind_some]
theorem sRd_numberF (R : cF f pl h) (m : Int32) : ∃ h', fRd_wantsNumber m h = some (0, h') ∧ cF f pl h' ∧ eFr x6 h h' := by
  have h2 := sRd_hereF R 1
  refine ⟨_, ?_, h2.1, h2.2⟩
  unfold fRd_wantsNumber
  rw [R.2.2.2.2, if_neg (by decide)]
theorem sRd_wsignF (R : cF f pl h) (c : Int32) : ∃ h', fRd_wantsSign c h = some h' ∧ cF f pl h' ∧ eFr x6 h h' := by
  have h2 := sRd_hereF R 1
  refine ⟨_, ?_, h2.1, h2.2⟩
  unfold fRd_wantsSign
  rw [sRd_signF R, if_pos rfl]
theorem sRd_wwordF (R : cF f pl h) (c : Nat) : ∃ h', fRd_wantsWord c h = some h' ∧ cF f pl h' ∧ eFr x6 h h' := by
  have h2 := sRd_hereF R 1
  refine ⟨_, ?_, h2.1, h2.2⟩
  unfold fRd_wantsWord
  rw [sRd_wordF R, if_pos rfl]
theorem sRd_wsign {c : Nat} (R : cR n T e s h) (hc : c < 256) (h1 : xL c = false) (h2 : xD c = false) (he : e ≤ s) : (¬ (s < n ∧ T s = c) → ∃ h', fRd_wantsSign (jz c) h = some h' ∧ cF 1 s h' ∧ eFr x6 h h') ∧ (s < n ∧ T s = c → ∃ h', fRd_wantsSign (jz c) h = some h' ∧ cR n T e (xSk n T (s + 1)) h' ∧ eFr x6 h h') := by
  have st := sRd_sign R hc h1 h2
  obtain ⟨-, q2⟩ := sRd_tsign R hc h1 h2 he
  constructor
  · intro hn
    have h2 := sRd_hereR R (f := 1) (by omega)
    refine ⟨_, ?_, h2.1, h2.2⟩
    unfold fRd_wantsSign
    rw [st, if_neg hn, if_pos (show jz 0 = 0 from rfl)]
    rfl
  · intro hy
    obtain ⟨h', p1, p2, p3⟩ := q2 hy
    refine ⟨h', ?_, p2, p3⟩
    unfold fRd_takesSign at p1
    unfold fRd_wantsSign
    rw [st, if_pos hy, if_neg (show ¬ jz 1 = 0 by decide)] at p1 ⊢
    cases hs : fRd_step h with
    | none => rw [hs] at p1; cases p1
    | some z =>
      rw [hs, Option.bind_some, if_pos (show jz 1 = 0 ∨ jz 1 = 1 from Or.inr rfl)] at p1
      rw [Option.bind_some]
      exact congrArg some (congrArg Prod.snd (Option.some.inj p1))
theorem sRd_wword {i : Nat} (R : cR n T e s h) (hi : i < 31) : (¬ xHas n T e s (xw i) = true → ∃ h', fRd_wantsWord (1000 + i) h = some h' ∧ cF 1 s h' ∧ eFr x6 h h') ∧ (xHas n T e s (xw i) = true → ∃ h', fRd_wantsWord (1000 + i) h = some h' ∧ cR n T (xRun n T xL s) (xSk n T (xRun n T xL s)) h' ∧ eFr x6 h h') := by
  have st := sRd_word R hi
  obtain ⟨w1, w2, w3, w4⟩ := xw_ok hi
  constructor
  · intro hn
    have h2 := sRd_hereR R (f := 1) (by omega)
    refine ⟨_, ?_, h2.1, h2.2⟩
    unfold fRd_wantsWord
    rw [st, if_neg hn, if_pos (show jz 0 = 0 from rfl)]
    rfl
  · intro hy
    have cl := xHas_L w1 w4 hy
    obtain ⟨⟨c0, ce, -⟩, -⟩ := xHas_iff.mp hy
    obtain ⟨h', q1, q2, q3⟩ := sRd_stepL R c0 cl ce
    refine ⟨h', ?_, q2, q3⟩
    unfold fRd_wantsWord
    rw [st, if_pos hy, if_neg (show ¬ jz 1 = 0 by decide), q1, Option.bind_some]
/-- an own word stands at s -/
def xOwn (n : Nat) (T : Nat → Nat) (e : Int) (s : Nat) : Bool := (List.range 25).any (fun i => xHas n T e s (xw i))
theorem xown_t : (List.range 31).all (fun i => decide (jwc (1000 + i) 1 = if i < 25 then 1 else 0)) = true := by decide +kernel
theorem xown_i {i : Nat} (hi : i < 31) : jwc (1000 + i) 1 = if i < 25 then 1 else 0 := of_decide_eq_true (List.all_eq_true.mp xown_t i (List.mem_range.mpr hi))
theorem sRd_vw {i : Nat} (R : cR n T e s h) (hi : i < 31) (c0 : s < n) (cl : xL (T s) = true) (ce : (s : Int) ≠ e) : (jwc (1000 + i) 0 = h.1 6 4) ↔ xHas n T e s (xw i) = true := by
  have st := sRd_word R hi
  have k1 : xKd n T e s = 1 := by unfold xKd; rw [if_pos c0, if_pos cl, if_neg ce]
  have r6 := R.2.2.2.2.2.1
  rw [k1] at r6
  unfold fRd_standsWord at st
  rw [r6, if_pos (show jz 1 = 1 from rfl)] at st
  constructor
  · intro t
    rw [if_pos t.symm] at st
    by_cases y : xHas n T e s (xw i) = true
    · exact y
    · rw [if_neg y] at st; exact absurd st (by decide)
  · intro y
    rw [if_pos y] at st
    by_cases t : h.1 6 4 = jwc (1000 + i) 0
    · exact t.symm
    · rw [if_neg t] at st; exact absurd st (by decide)
theorem sWd_own (R : cR n T e s h) (c0 : s < n) (cl : xL (T s) = true) (ce : (s : Int) ≠ e) : fWd_isOwn (h.1 6 4) h = some (if xOwn n T e s = true then 1 else 0) := by
  have go : ∀ m i, i + m = 31 → (∀ j, j < i → j < 25 → ¬ xHas n T e s (xw j) = true) → jlim (fWd_isOwn_l2 (h.1 6 4) h) (jz i) = some (if xOwn n T e s = true then Sum.inl () else Sum.inr ()) := by
    intro m
    induction m with
    | zero =>
      intro i hi hj
      have : ¬ xOwn n T e s = true := by
        unfold xOwn
        rw [List.any_eq_true]
        rintro ⟨j, j1, j2⟩
        have := List.mem_range.mp j1
        exact hj j (by omega) this j2
      rw [if_neg this, jlim_eq]
      simp only [fWd_isOwn_l2, fWd_isOwn_l2_b]
      rw [if_neg (by rw [show (31 : Int32) = jz 31 from rfl, jz_lt (by omega) (by omega) (by omega) (by omega)]; omega)]
    | succ m ih =>
      intro i hi hj
      have ow := xown_i (show i < 31 by omega)
      have vw := sRd_vw R (show i < 31 by omega) c0 cl ce
      have e1 : jz (i : Int) + 1 = jz ((i + 1 : Nat) : Int) := by rw [show (1 : Int32) = jz 1 from rfl, jz_add]; rfl
      rw [jlim_eq]
      simp only [fWd_isOwn_l2, fWd_isOwn_l2_b, fWd_isOwn_l2_j35]
      rw [if_pos (by rw [show (31 : Int32) = jz 31 from rfl, jz_lt (by omega) (by omega) (by omega) (by omega)]; omega), if_pos (by rw [jin_z (by omega) (by omega)]; omega)]
      have ix : (jz (i : Int)).toNatClampNeg = i := by rw [jz_ix (by omega) (by omega), Int.toNat_natCast]
      simp only [ix, ow]
      by_cases c25 : i < 25
      · rw [if_pos c25, if_neg (by decide), if_pos (by rw [jin_z (by omega) (by omega)]; omega)]
        by_cases y : xHas n T e s (xw i) = true
        · rw [if_pos (vw.mpr y)]
          have : xOwn n T e s = true := by
            unfold xOwn
            exact List.any_eq_true.mpr ⟨i, List.mem_range.mpr c25, y⟩
          rw [if_pos this]
        · rw [if_neg (fun t => y (vw.mp t)), e1]
          exact ih (i + 1) (by omega) (fun j h1 h2 => by
            by_cases q : j = i
            · subst q; exact y
            · exact hj j (by omega) h2)
      · rw [if_neg c25, if_pos rfl, e1]
        exact ih (i + 1) (by omega) (fun j h1 h2 => by
          by_cases q : j = i
          · subst q; omega
          · exact hj j (by omega) h2)
  have := go 31 0 (by omega) (fun j h1 _ => by omega)
  have t' : jlim (fWd_isOwn_l2 (h.1 6 4) h) 0 = _ := this
  unfold fWd_isOwn
  rw [t', Option.bind_some]
  by_cases y : xOwn n T e s = true
  · rw [if_pos y, if_pos y]; rfl
  · rw [if_neg y, if_neg y]; rfl
def xWord (n : Nat) (T : Nat → Nat) (e : Int) (s : Nat) : Prop := s < n ∧ xL (T s) = true ∧ (s : Int) ≠ e
theorem sRd_name (R : cR n T e s h) : (¬ xWord n T e s → ∃ h', fRd_wantsName h = some (0, h') ∧ cF 1 s h' ∧ eFr x6 h h') ∧ (xWord n T e s → 6 < xRun n T xL s - s → ∃ h', fRd_wantsName h = some (0, h') ∧ cF 1 ((s + 6 : Nat) : Int) h' ∧ eFr x6 h h') ∧ (xWord n T e s → ¬ 6 < xRun n T xL s - s → xOwn n T e s = true → ∃ h', fRd_wantsName h = some (0, h') ∧ cF 1 s h' ∧ eFr x6 h h') ∧ (xWord n T e s → ¬ 6 < xRun n T xL s - s → ¬ xOwn n T e s = true → ∃ h', fRd_wantsName h = some (jz (xWv n T s : Int), h') ∧ cR n T (xRun n T xL s) (xSk n T (xRun n T xL s)) h' ∧ eFr x6 h h') := by
  have kb := xKd_b (n := n) (T := T) (e := e) (s := s)
  have hb := R.1.1
  have R0 := R
  obtain ⟨-, r2, -, r4, r5, r6, r7, -⟩ := R0
  have com : xWord n T e s → h.1 6 3 = jz 1 ∧ h.1 6 2 = jz (xRun n T xL s) ∧ h.1 6 4 = jz (xWv n T s : Int) ∧ s < xRun n T xL s ∧ xRun n T xL s ≤ n := by
    rintro ⟨c0, cl, ce⟩
    have ag := xRunL_gt c0 cl
    have k2 : xKd n T e s = 1 := by unfold xKd; rw [if_pos c0, if_pos cl, if_neg ce]
    have a2 : xAf n T s = xRun n T xL s := by unfold xAf; rw [if_pos c0, if_pos cl]
    have v2 : xVl n T s = (xWv n T s : Int) := by unfold xVl; rw [if_pos c0, if_pos cl]
    rw [k2] at r6
    rw [a2] at r5
    rw [v2] at r7
    exact ⟨r6, r5, r7, ag.1, ag.2⟩
  have e0 : ∀ a b : Nat, a ≤ b → jz (b : Int) - jz (a : Int) = jz ((b - a : Nat) : Int) := fun a b hab => by rw [jz_sub]; congr 1; omega
  refine ⟨fun hn => ?_, fun hy h4 => ?_, fun hy h4 hv => ?_, fun hy h4 hv => ?_⟩
  · have h2 := sRd_hereR R (f := 1) (by omega)
    refine ⟨fRd_failHere 1 h, ?_, h2.1, h2.2⟩
    have k1 : ¬ xKd n T e s = 1 := by
      intro k1
      unfold xKd at k1
      by_cases c0 : s < n
      · rw [if_pos c0] at k1
        by_cases cl : xL (T s) = true
        · rw [if_pos cl] at k1
          by_cases ce : (s : Int) = e
          · rw [if_pos ce] at k1; omega
          · exact hn ⟨c0, cl, ce⟩
        · rw [if_neg cl] at k1
          split at k1
          · split at k1 <;> omega
          · omega
      · rw [if_neg c0] at k1; omega
    unfold fRd_wantsName
    rw [r6, if_neg (by rw [show (1 : Int32) = jz 1 from rfl, jz_eq (by omega) (by omega) (by omega) (by omega)]; exact k1)]
  · obtain ⟨q1, q2, q3, q4, q5⟩ := com hy
    have h2 := sRd_failR (pl := ((s + 6 : Nat) : Int)) R (f := 1) (by omega)
    refine ⟨_, ?_, h2.1, h2.2⟩
    unfold fRd_wantsName
    rw [q1, if_pos (show jz 1 = 1 from rfl), q2, r4, e0 _ _ (by omega), if_pos (by rw [show (6 : Int32) = jz 6 from rfl, jz_lt (by omega) (by omega) (by omega) (by omega)]; omega), show (6 : Int32) = jz 6 from rfl, jz_add]
    rfl
  · obtain ⟨q1, q2, q3, q4, q5⟩ := com hy
    have h2 := sRd_hereR R (f := 1) (by omega)
    have ow := sWd_own R hy.1 hy.2.1 hy.2.2
    refine ⟨_, ?_, h2.1, h2.2⟩
    unfold fRd_wantsName
    rw [q1, if_pos (show jz 1 = 1 from rfl), ow, q2, r4, e0 _ _ (by omega), if_neg (by rw [show (6 : Int32) = jz 6 from rfl, jz_lt (by omega) (by omega) (by omega) (by omega)]; omega), if_pos hv, Option.bind_some, if_neg (by decide)]
    rfl
  · obtain ⟨q1, q2, q3, q4, q5⟩ := com hy
    obtain ⟨h', p1, p2, p3⟩ := sRd_stepL R hy.1 hy.2.1 hy.2.2
    have ow := sWd_own R hy.1 hy.2.1 hy.2.2
    refine ⟨h', ?_, p2, p3⟩
    unfold fRd_wantsName
    rw [q1, if_pos (show jz 1 = 1 from rfl), ow, q2, r4, e0 _ _ (by omega), if_neg (by rw [show (6 : Int32) = jz 6 from rfl, jz_lt (by omega) (by omega) (by omega) (by omega)]; omega), if_neg hv, Option.bind_some, if_pos rfl, p1, Option.bind_some, q3]
theorem sRd_nameF (R : cF f pl h) : ∃ h', fRd_wantsName h = some (0, h') ∧ cF f pl h' ∧ eFr x6 h h' := by
  have h2 := sRd_hereF R 1
  refine ⟨_, ?_, h2.1, h2.2⟩
  unfold fRd_wantsName
  rw [R.2.2.2.2, if_neg (by decide)]
end XT
