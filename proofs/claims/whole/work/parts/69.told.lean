/-! a wedding while it is told: both drafts; a word and a number; pairs of names -/
def xDc (d g np nh : Nat) (D : jD) (L : List Int) (h : jH) : Prop := (h.1 d 0 = jz g ∧ h.1 d 1 = jz np ∧ h.1 d 2 = jz nh) ∧ (h.1 d 3 = jz (D 0 3) ∧ h.1 d 4 = jz (D 0 4) ∧ h.1 d 5 = jz (D 0 5) ∧ h.1 d 6 = jz (D 0 6)) ∧ (h.1 d 7 = jz (D 0 7) ∧ h.1 d 8 = jz (D 0 8) ∧ h.1 d 9 = jz (D 0 9)) ∧ (∀ k, k < g → h.1 (d + 2) k = jz (D 3 k) ∧ h.1 (d + 3) k = jz (D 4 k) ∧ h.1 (d + 4) k = jz (D 5 k) ∧ h.1 (d + 5) k = jz (D 6 k)) ∧ (∀ k, k < 8 → h.1 (d + 6) k = jz (D 7 k) ∧ h.1 (d + 7) k = jz (D 8 k)) ∧ h.1 (d + 9) 2 = jz L.length ∧ ∀ j, j < L.length → h.1 (d + 10) j = jz (L.getD j 0)
def xDm (g np nh : Nat) (D : jD) (L : List Int) (h : jH) : Prop := (h.1 138 0 = jz g ∧ h.1 138 1 = jz np ∧ h.1 138 2 = jz nh) ∧ (h.1 140 0 = jz (D 0 3) ∧ h.1 140 1 = jz (D 0 4) ∧ h.1 140 2 = jz (D 0 5) ∧ h.1 140 3 = jz (D 0 6)) ∧ (h.1 144 0 = jz (D 0 7) ∧ h.1 144 1 = jz (D 0 8) ∧ h.1 144 2 = jz (D 0 9)) ∧ (∀ k, k < g → h.1 141 (4 * k) = jz (D 3 k) ∧ h.1 141 (4 * k + 1) = jz (D 4 k) ∧ h.1 141 (4 * k + 2) = jz (D 5 k) ∧ h.1 141 (4 * k + 3) = jz (D 6 k)) ∧ (∀ k, k < 8 → h.1 142 k = jz (D 7 k) ∧ h.1 143 k = jz (D 8 k)) ∧ h.1 110 46 = jz L.length ∧ (L = [] → h.1 145 0 = -1) ∧ (L ≠ [] → h.1 145 0 = jz 0 ∧ h.1 146 0 = jz L.length ∧ ∀ j, j < L.length → h.1 147 j = jz (jcode (L.getD j 0)))
def xDb (g np nh : Nat) (D : jD) (L : List Int) : Prop := bV g D ∧ D 0 10 = 1 ∧ np ≤ 16 ∧ nh ≤ 24 ∧ L.length ≤ 1600 ∧ (L ≠ [] → jwf L ∧ ∀ x ∈ L, xst 0 x)
def xW (d g np nh : Nat) (D : jD) (L : List Int) (hc hm : jH) : Prop := xDb g np nh D L ∧ xDc d g np nh D L hc ∧ xDm g np nh D L hm ∧ ∀ k, k < g → jNm (hc.1 (d + 1) k) (hm.2 139 k)
/-- what the class's draft keeps to, faults or not -/
def xWk (d : Nat) (h : jH) : Prop := (∃ g : Nat, g ≤ 8 ∧ h.1 d 0 = jz g) ∧ ∀ k, k < 8 → ∃ m : Nat, m < 256 ∧ h.1 (d + 6) k = jz m
def xFc (d o _k : Nat) : Prop := o = 6 ∨ (d ≤ o ∧ o ≤ d + 11 ∧ o ≠ d + 8)
def xFd (d o _k : Nat) : Prop := o = 6 ∨ (d ≤ o ∧ o ≤ d + 11)
theorem xFd_c {d : Nat} {h h' : jH} (a : eFr (xFc d) h h') : eFr (xFd d) h h' := eFr_mono a (fun o k hk => by unfold xFc at hk; unfold xFd; omega)
def xFm (o k : Nat) : Prop := xg o k ∨ (o = 138 ∧ k < 3) ∨ (o = 139 ∧ k < 8) ∨ (o = 140 ∧ k < 4) ∨ (o = 141 ∧ k < 32) ∨ (o = 142 ∧ k < 8) ∨ (o = 143 ∧ k < 8) ∨ (o = 144 ∧ k < 3) ∨ (o = 145 ∧ k = 0) ∨ (o = 146 ∧ k = 0) ∨ (o = 147 ∧ k < 1600) ∨ (o = 110 ∧ (k = 46 ∨ k = 49))
def xdd (d : Nat) : Prop := 84 ≤ d ∧ d ≤ 98
section XK
variable {n : Nat} {T : Nat → Nat} {e : Int} {s s0 d g np nh : Nat} {D : jD} {L : List Int} {h hc hm h' : jH} {f pl : Int}
theorem xFc_6 (a : eFr x6 h h') : eFr (xFc d) h h' := eFr_mono a (fun o k hk => Or.inl hk)
theorem xFm_m (a : eFr xm h h') : eFr xFm h h' := eFr_mono (xg_m a) (fun o k hk => Or.inl hk)
theorem xFm_g (a : eFr xg h h') : eFr xFm h h' := eFr_mono a (fun o k hk => Or.inl hk)
theorem xDc_fr (X : xDc d g np nh D L h) (f : ∀ o k, (d ≤ o ∧ o ≤ d + 10 ∧ o ≠ d + 1) → h'.1 o k = h.1 o k) : xDc d g np nh D L h' := by
  unfold xDc at *
  simp (disch := omega) only [f]
  exact X
theorem xDm_fr (X : xDm g np nh D L h) (f : ∀ o k, (o = 138 ∨ o = 140 ∨ o = 141 ∨ o = 142 ∨ o = 143 ∨ o = 144 ∨ o = 145 ∨ o = 146 ∨ o = 147 ∨ (o = 110 ∧ k = 46)) → h'.1 o k = h.1 o k) : xDm g np nh D L h' := by
  unfold xDm at *
  simp (disch := omega) only [f]
  exact X
theorem xW_fr {hc' hm' : jH} (X : xW d g np nh D L hc hm) (f1 : ∀ o k, (d ≤ o ∧ o ≤ d + 10) → hc'.1 o k = hc.1 o k) (f2 : ∀ o k, (o = 138 ∨ o = 140 ∨ o = 141 ∨ o = 142 ∨ o = 143 ∨ o = 144 ∨ o = 145 ∨ o = 146 ∨ o = 147 ∨ (o = 110 ∧ k = 46)) → hm'.1 o k = hm.1 o k) (f3 : ∀ k, hm'.2 139 k = hm.2 139 k) : xW d g np nh D L hc' hm' := by
  obtain ⟨x1, x2, x3, x4⟩ := X
  exact ⟨x1, xDc_fr x2 (fun o k hk => f1 o k (by omega)), xDm_fr x3 f2, fun k hk => by rw [f1 _ _ (by omega), f3]; exact x4 k hk⟩
theorem xW_s {hc' hm' : jH} (hd : xdd d) (X : xW d g np nh D L hc hm) (f1 : eFr x6 hc hc') (f2 : eFr xm hm hm') : xW d g np nh D L hc' hm' :=
  xW_fr X (fun o k hk => f1.1 _ _ (by unfold xdd at hd; unfold x6; omega)) (fun o k hk => f2.1 _ _ (by unfold xm; omega)) (fun k => f2.2 _ _ (by unfold xm; omega))
theorem xW_k (X : xW d g np nh D L hc hm) : xWk d hc := by
  obtain ⟨x1, x2, x3, x4⟩ := X
  refine ⟨⟨g, x1.1.1, x2.1.1⟩, fun k hk => ⟨ePD D k, (eD7 x1.1 hk).2.2, ?_⟩⟩
  rw [(x2.2.2.2.2.1 k hk).1, (eD7 x1.1 hk).1]
theorem xWk_fr {hc' : jH} (X : xWk d hc) (f1 : ∀ o k, (o = d ∧ k = 0) ∨ o = d + 6 → hc'.1 o k = hc.1 o k) : xWk d hc' := by
  obtain ⟨⟨g, g1, g2⟩, x⟩ := X
  refine ⟨⟨g, g1, by rw [f1 _ _ (by omega)]; exact g2⟩, fun k hk => ?_⟩
  obtain ⟨m, m1, m2⟩ := x k hk
  exact ⟨m, m1, by rw [f1 _ _ (by omega)]; exact m2⟩
theorem xWk_6 {hc' : jH} (hd : xdd d) (X : xWk d hc) (f1 : eFr x6 hc hc') : xWk d hc' := xWk_fr X (fun o k hk => f1.1 _ _ (by unfold xdd at hd; unfold x6; omega))
theorem cR_cF (R : cR n T e s hc) (F : cF f pl hc) : False := by
  obtain ⟨-, -, -, -, -, -, -, r8, -⟩ := R
  obtain ⟨f1, f2, f3, -⟩ := F
  rw [r8, jz_eq (by omega) (by omega) (by omega) (by omega)] at f3
  omega
/-- both go on, or both have told the same fault -/
def xBo (n : Nat) (T : Nat → Nat) (s0 : Nat) (hc hm : jH) : Prop := (∃ f pl, cF f pl hc ∧ mF n T f pl hm) ∨ (∃ e s, s0 ≤ s ∧ cR n T e s hc ∧ mR n T e s hm)
def xbad (h : jH) : Prop := ∃ f pl, cF f pl h
/-- a word, then a number -/
theorem wn {M i m : Nat} (W : xMw M i) (hm9 : m ≤ 9999) (X : xBo n T s0 hc hm) : ∃ hc1 hc2 hm1 hm2 zc zm, fRd_wantsWord (1000 + i) hc = some hc1 ∧ fRd_wantsNumber (jz m) hc1 = some (zc, hc2) ∧ fM_asks M hm = some hm1 ∧ fM_number 0 (jz m) hm1 = some (zm, hm2) ∧ eFr x6 hc hc2 ∧ eFr xm hm hm2 ∧ ((∃ f pl, cF f pl hc2 ∧ mF n T f pl hm2) ∨ (∃ e s x, s0 < s ∧ 0 ≤ x ∧ x ≤ (m : Int) ∧ zc = jz x ∧ zm = jz x ∧ cR n T e s hc2 ∧ mR n T e s hm2 ∧ ¬ xbad hc)) := by
  rcases X with ⟨f, pl, c, m'⟩ | ⟨e, s, hs, R, R'⟩
  · obtain ⟨c1, a1, a2, a3⟩ := sRd_wwordF c (1000 + i)
    obtain ⟨c2, b1, b2, b3⟩ := sRd_numberF a2 (jz m)
    exact ⟨c1, c2, hm, hm, _, _, a1, b1, sM_asksF m', sM_numberF m' _ _, eFr_trans a3 b3, eFr_refl _ _, Or.inl ⟨f, pl, b2, m'⟩⟩
  · have hi := W.1
    have wok := xw_ok hi
    by_cases y : xHas n T e s (xw i) = true
    · obtain ⟨c1, a1, a2, a3⟩ := (sRd_wword R hi).2 y
      obtain ⟨m1, b1, b2, b3⟩ := (sM_asks R' W).2 y
      have cl := xHas_L wok.1 wok.2.2.2 y
      have c0 := (xHas_iff.mp y).1.1
      have rg := xRunL_gt c0 cl
      have sg := xSk_ge (n := n) (T := T) (s := xRun n T xL s)
      obtain ⟨r1, r2, r3, r4⟩ := sRd_number (m := m) a2 hm9
      obtain ⟨q1, q2, q3, q4⟩ := sM_number (m := m) b2 hm9
      generalize hu : xSk n T (xRun n T xL s) = u at *
      by_cases k1 : xNum n T (xRun n T xL s) u
      · by_cases k2 : 4 < xRun n T xD u - u
        · obtain ⟨c2, d1, d2, d3⟩ := r2 k1 k2
          obtain ⟨m2, e1, e2, e3⟩ := q2 k1 k2
          exact ⟨c1, c2, m1, m2, _, _, a1, d1, b1, e1, eFr_trans a3 d3, eFr_trans b3 e3, Or.inl ⟨_, _, d2, e2⟩⟩
        · by_cases k3 : m < xNv n T u
          · obtain ⟨c2, d1, d2, d3⟩ := r3 k1 k2 k3
            obtain ⟨v, m2, e1, e2, e3⟩ := q3 k1 k2 k3
            exact ⟨c1, c2, m1, m2, _, _, a1, d1, b1, e1, eFr_trans a3 d3, eFr_trans b3 e3, Or.inl ⟨_, _, d2, e2⟩⟩
          · obtain ⟨c2, d1, d2, d3⟩ := r4 k1 k2 k3
            obtain ⟨m2, e1, e2, e3⟩ := q4 k1 k2 k3
            have rg2 : u < xRun n T xD u := by
              rw [xRun_go k1.1 k1.2.1]
              have := xRun_ge (n := n) (T := T) (P := xD) (s := u + 1)
              omega
            have sg2 := xSk_ge (n := n) (T := T) (s := xRun n T xD u)
            exact ⟨c1, c2, m1, m2, _, _, a1, d1, b1, e1, eFr_trans a3 d3, eFr_trans b3 e3, Or.inr ⟨_, _, (xNv n T u : Int), by omega, by omega, by omega, rfl, rfl, d2, e2, fun ⟨f, pl, t⟩ => cR_cF R t⟩⟩
      · obtain ⟨c2, d1, d2, d3⟩ := r1 k1
        obtain ⟨m2, e1, e2, e3⟩ := q1 k1
        exact ⟨c1, c2, m1, m2, _, _, a1, d1, b1, e1, eFr_trans a3 d3, eFr_trans b3 e3, Or.inl ⟨_, _, d2, e2⟩⟩
    · obtain ⟨c1, a1, a2, a3⟩ := (sRd_wword R hi).1 y
      obtain ⟨m1, b1, b2, b3⟩ := (sM_asks R' W).1 y
      obtain ⟨c2, d1, d2, d3⟩ := sRd_numberF a2 (jz m)
      exact ⟨c1, c2, m1, m1, _, _, a1, d1, b1, sM_numberF b2 _ _, eFr_trans a3 d3, b3, Or.inl ⟨1, s, d2, b2⟩⟩
theorem wn_x {M i m : Nat} (W : xMw M i) (hm9 : m ≤ 9999) (X : xBo n T s0 hc hm) : ∃ hc1 hc2 hm1 hm2 zc zm, fRd_wantsWord (1000 + i) hc = some hc1 ∧ fRd_wantsNumber (jz m) hc1 = some (zc, hc2) ∧ fM_asks M hm = some hm1 ∧ fM_number 0 (jz m) hm1 = some (zm, hm2) ∧ eFr x6 hc hc2 ∧ eFr xm hm hm2 ∧ xBo n T s0 hc2 hm2 ∧ (¬ xbad hc2 → ¬ xbad hc ∧ ∃ x : Int, 0 ≤ x ∧ x ≤ (m : Int) ∧ zc = jz x ∧ zm = jz x ∧ ∀ e s, cR n T e s hc2 → s0 < s) := by
  obtain ⟨c1, c2, m1, m2, zc, zm, a1, a2, a3, a4, a5, a6, a7⟩ := wn W hm9 X
  refine ⟨c1, c2, m1, m2, zc, zm, a1, a2, a3, a4, a5, a6, ?_, ?_⟩
  · rcases a7 with b | ⟨e, s, x, b1, b2, b3, b4, b5, b6, b7, b8⟩
    · exact Or.inl b
    · exact Or.inr ⟨e, s, by omega, b6, b7⟩
  · intro nb
    rcases a7 with ⟨f, pl, b1, b2⟩ | ⟨e, s, x, b1, b2, b3, b4, b5, b6, b7, b8⟩
    · exact absurd ⟨f, pl, b1⟩ nb
    · refine ⟨b8, x, b2, b3, b4, b5, fun e' s' R => ?_⟩
      have h1 := R.2.2.2.1
      have h2 := b6.2.2.2.1
      have h3 := R.2.1
      have h4 := b6.2.1
      have h5 := R.1.1
      rw [h1, jz_eq (by omega) (by omega) (by omega) (by omega)] at h2
      omega
theorem xBo_c {hc' : jH} (X : xBo n T s0 hc hm) (a : ∀ o k, o = 2 ∨ o = 3 ∨ o = 6 → hc'.1 o k = hc.1 o k) : xBo n T s0 hc' hm := by
  rcases X with ⟨f, pl, c, m'⟩ | ⟨e, s, hs, R, R'⟩
  · exact Or.inl ⟨f, pl, cF_fr c (fun k => a _ _ (by omega)), m'⟩
  · exact Or.inr ⟨e, s, hs, cR_fr R a, R'⟩
theorem xBo_m {hm' : jH} (X : xBo n T s0 hc hm) (a : ∀ o k, o = 111 ∨ (113 ≤ o ∧ o ≤ 137) ∨ (153 ≤ o ∧ o ≤ 172) ∨ (o = 110 ∧ (k = 2 ∨ k = 3 ∨ k = 4 ∨ k = 5 ∨ k = 6)) → hm'.1 o k = hm.1 o k) : xBo n T s0 hc hm' := by
  rcases X with ⟨f, pl, c, m'⟩ | ⟨e, s, hs, R, R'⟩
  · exact Or.inl ⟨f, pl, c, mF_fr m' (fun o k hk => a _ _ (by omega))⟩
  · exact Or.inr ⟨e, s, hs, R, mR_fr R' a⟩
theorem xbad_c {hc' : jH} (a : ∀ k, hc'.1 6 k = hc.1 6 k) : xbad hc' ↔ xbad hc := by
  constructor
  · rintro ⟨f, pl, c⟩
    exact ⟨f, pl, cF_fr c (fun k => (a k).symm)⟩
  · rintro ⟨f, pl, c⟩
    exact ⟨f, pl, cF_fr c a⟩
theorem xBo_5 (X : xBo n T s0 hc hm) : (xbad hc → ¬ hm.1 110 5 = 0) ∧ (¬ xbad hc → hm.1 110 5 = 0) := by
  rcases X with ⟨f, pl, c, m'⟩ | ⟨e, s, hs, R, R'⟩
  · exact ⟨fun _ => mF_5 m', fun t => absurd ⟨f, pl, c⟩ t⟩
  · exact ⟨fun ⟨f, pl, t⟩ => (cR_cF R t).elim, fun _ => mR_5 R'⟩
/-- a fault where all goes on as yet -/
theorem sM_failM {p2 : Int} (R : mR n T e s hm) (hf : 1 ≤ f ∧ f ≤ 5) : mF n T f p2 (fM_fail (jz f) (jz p2) hm) ∧ eFr xm hm (fM_fail (jz f) (jz p2) hm) := by
  have me := mR_e R
  obtain ⟨r1, r2, r3, ⟨r, q1, q2, q3, q4⟩, r8, r9, r10, r11, r12⟩ := R
  unfold fM_fail
  rw [r11, if_pos (show jz 0 = 0 from rfl)]
  have f0 : eFr xm hm (jhI (jhI hm 110 5 (jz f)) 110 6 (jz p2)) := xm_I6 (xm_I5 (eFr_refl _ _) _) _
  exact ⟨⟨xTm_m r1 f0, eWd_m r2 f0, ⟨r, by omega, q4⟩, r8, hf.1, hf.2, rfl, rfl⟩, f0⟩
theorem sM_full {i c c' p2 : Int} (R : mR n T e s hm) (hi : 0 ≤ i ∧ i < 6) (hcell : hm.1 138 i.toNat = jz c) (hb : 0 ≤ c ∧ c ≤ 100) (hb' : 0 ≤ c' ∧ c' ≤ 100) : (c = c' → ∃ h', fM_isFull (jz i) (jz c') (jz p2) hm = some (1, h') ∧ mF n T 5 p2 h' ∧ eFr xm hm h') ∧ (c ≠ c' → fM_isFull (jz i) (jz c') (jz p2) hm = some (0, hm)) := by
  have ji : jin (jz i) 6 := by rw [jin_z (by omega) (by omega)]; omega
  constructor
  · intro h
    have fl := sM_failM (p2 := p2) R (f := 5) (by omega)
    refine ⟨_, ?_, fl.1, fl.2⟩
    unfold fM_isFull
    rw [mR_5 R, if_pos rfl, if_pos ji, jz_ix (by omega) (by omega), hcell, if_pos (by rw [h])]
    unfold fM_isFull_j23
    rw [show (5 : Int32) = jz 5 from rfl, if_neg (mF_5 fl.1)]
  · intro h
    unfold fM_isFull
    rw [mR_5 R, if_pos rfl, if_pos ji, jz_ix (by omega) (by omega), hcell, if_neg (by rw [jz_eq (by omega) (by omega) (by omega) (by omega)]; exact h)]
    unfold fM_isFull_j23
    rw [mR_5 R, if_pos rfl]
/-- a name that is known, on both sides; r: who bears it -/
theorem known (hd : xdd d) (X : xW d g np nh D L hc hm) (R : cR n T e s hc) (R' : mR n T e s hm) : ∃ hc' hm' zc zm, fPr_readKnownName d hc = some (zc, hc') ∧ fM_guestHere hm = some (zm, hm') ∧ eFr x6 hc hc' ∧ eFr xm hm hm' ∧ ((zc = jz (-1) ∧ ∃ f pl, cF f pl hc' ∧ mF n T f pl hm') ∨ (∃ e' s' r, r < g ∧ zc = jz (r : Nat) ∧ zm = jz (r : Nat) ∧ cR n T e' s' hc' ∧ mR n T e' s' hm' ∧ s < s' ∧ hm'.1 110 35 = jz s)) := by
  have g8 := X.1.1.1
  have c0 := X.2.1.1.1
  have m0 := X.2.2.1.1.1
  obtain ⟨r1, r2, r3, r4⟩ := sRd_name R
  obtain ⟨q1, q2, q3, q4⟩ := sM_name R'
  have bad : ∀ {f pl : Int} {c1 m1 : jH}, fRd_wantsName hc = some (0, c1) → fM_name hm = some (0, m1) → cF f pl c1 → mF n T f pl m1 → eFr x6 hc c1 → eFr xm hm m1 → ∃ hc' hm' zc zm, fPr_readKnownName d hc = some (zc, hc') ∧ fM_guestHere hm = some (zm, hm') ∧ eFr x6 hc hc' ∧ eFr xm hm hm' ∧ ((zc = jz (-1) ∧ ∃ f pl, cF f pl hc' ∧ mF n T f pl hm') ∨ (∃ e' s' r, r < g ∧ zc = jz (r : Nat) ∧ zm = jz (r : Nat) ∧ cR n T e' s' hc' ∧ mR n T e' s' hm' ∧ s < s' ∧ hm'.1 110 35 = jz s)) := by
    intro f pl c1 m1 a1 a2 a3 a4 a5 a6
    have X1 := xW_s hd X a5 a6
    obtain ⟨r, b1, b2, b3, b4, b5⟩ := named_eq (x := 0) (y := 0) g8 X1.2.1.1.1 X1.2.2.1.1.1 (fun k hk => by
      have := jNm_0 (X1.2.2.2 k hk)
      exact ⟨fun t => absurd t this.1, fun t => absurd t this.2⟩)
    have r0 : r = -1 := by
      by_cases t : r = -1
      · exact t
      · exfalso
        -- a name is never 0
        have : ∀ k, k < g → hc.1 (d + 1) k ≠ 0 := fun k hk => (jNm_0 (X.2.2.2 k hk)).1
        obtain ⟨r', b1', b2', b3', b4', b5'⟩ := named_eq (d := d) (x := 0) (y := 0) g8 X1.2.1.1.1 X1.2.2.1.1.1 (fun k hk => by
          have := jNm_0 (X1.2.2.2 k hk)
          exact ⟨fun t => absurd t this.1, fun t => absurd t this.2⟩)
        have nn : ∀ m k, k + m = g → jlim (fPn_guestNamed_l2 d 0 c1) (jz k) = some (.inr ()) := by
          intro m
          induction m with
          | zero =>
            intro k hk
            rw [jlim_1]
            show lim1 _ (fPn_guestNamed_l2_b d 0 (jz k) c1) = _
            unfold fPn_guestNamed_l2_b
            rw [X1.2.1.1.1, if_neg (by rw [jz_lt (by omega) (by omega) (by omega) (by omega)]; omega)]
            rfl
          | succ m ih =>
            intro k hk
            have ix : (jz (k : Int)).toNatClampNeg = k := by rw [jz_ix (by omega) (by omega), Int.toNat_natCast]
            rw [jlim_1]
            show lim1 _ (fPn_guestNamed_l2_b d 0 (jz k) c1) = _
            unfold fPn_guestNamed_l2_b
            rw [X1.2.1.1.1, if_pos (by rw [jz_lt (by omega) (by omega) (by omega) (by omega)]; omega), if_pos (by rw [show (8 : Int32) = jz 8 from rfl, jz_lt (by omega) (by omega) (by omega) (by omega)]; omega), if_pos (by rw [jin_z (by omega) (by omega)]; omega), ix, if_neg (jNm_0 (X1.2.2.2 k (by omega))).1, jk1]
            exact ih (k + 1) (by omega)
        have n0 := nn g 0 (by omega)
        have n0' : jlim (fPn_guestNamed_l2 d 0 c1) 0 = some (.inr ()) := n0
        unfold fPn_guestNamed at b3
        rw [n0', Option.bind_some] at b3
        have b6 : jz (-1) = jz r := Option.some.inj b3
        rw [jz_eq (by omega) (by omega) (by omega) (by omega)] at b6
        omega
    subst r0
    have F3 := sRd_failF a3 3 (hc.1 6 1)
    refine ⟨_, m1, jz (-1), 0, ?_, ?_, eFr_trans a5 F3.2, a6, Or.inl ⟨rfl, f, pl, F3.1, a4⟩⟩
    · unfold fPr_readKnownName
      rw [a1, Option.bind_some]
      dsimp only
      rw [b3, Option.bind_some, if_pos (show jz (-1) = -1 from rfl)]
      rfl
    · unfold fM_guestHere
      rw [a2, Option.bind_some]
      dsimp only
      rw [b4, Option.bind_some, if_neg (mF_5 a4)]
      unfold fM_guestHere_j32
      rw [if_neg (mF_5 a4)]
  by_cases k1 : xWord n T e s
  · by_cases k2 : xOwn n T e s = true
    · obtain ⟨m1, b1, b2, b3⟩ := q2 k1 k2
      by_cases k3 : 6 < xRun n T xL s - s
      · exfalso
        -- own words have six letters at most
        unfold xOwn at k2
        obtain ⟨i, i1, i2⟩ := List.any_eq_true.mp k2
        have := (xw_ok (show i < 31 by have := List.mem_range.mp i1; omega)).2.1
        have := (xHas_iff.mp i2).1.2.2
        omega
      · obtain ⟨c1, a1, a2, a3⟩ := r3 k1 k3 k2
        exact bad a1 b1 a2 b2 a3 b3
    · by_cases k3 : 6 < xRun n T xL s - s
      · obtain ⟨c1, a1, a2, a3⟩ := r2 k1 k3
        obtain ⟨m1, b1, b2, b3⟩ := q3 k1 k2 k3
        exact bad a1 b1 a2 b2 a3 b3
      · obtain ⟨c1, a1, a2, a3⟩ := r4 k1 k3 k2
        obtain ⟨m1, b1, b2, b3, b35⟩ := q4 k1 k2 k3
        have X1 := xW_s hd X a3 b3
        have nm := xNm_jNm k1.1 k1.2.1 k3
        obtain ⟨r, d1, d2, d3, d4, d5⟩ := named_eq (x := jz (xWv n T s : Int)) (y := jw (xNl T s (xRun n T xL s - s) : Int)) g8 X1.2.1.1.1 X1.2.2.1.1.1 (fun k hk => jNm_eq (X1.2.2.2 k hk) nm)
        have rg := xRunL_gt k1.1 k1.2.1
        have sg := xSk_ge (n := n) (T := T) (s := xRun n T xL s)
        by_cases hr : r = -1
        · subst hr
          have F3 := sRd_failR (pl := (s : Int)) a2 (f := 3) (by omega)
          have G3 := sM_failM (p2 := (s : Int)) b2 (f := 3) (by omega)
          refine ⟨_, _, jz (-1), 0, ?_, ?_, eFr_trans a3 F3.2, eFr_trans b3 G3.2, Or.inl ⟨rfl, 3, s, F3.1, G3.1⟩⟩
          · unfold fPr_readKnownName
            rw [a1, Option.bind_some]
            dsimp only
            rw [d3, Option.bind_some, if_pos (show jz (-1) = -1 from rfl)]
            unfold fRd_here
            rw [R.2.2.2.1]
            rfl
          · unfold fM_guestHere
            rw [b1, Option.bind_some]
            dsimp only
            rw [d4, Option.bind_some, mR_5 b2, if_pos rfl, if_pos (show jz (-1) = -1 from rfl), b35]
            unfold fM_guestHere_j32
            rw [show (3 : Int32) = jz 3 from rfl, if_neg (mF_5 G3.1)]
        · obtain ⟨r, rfl⟩ : ∃ k : Nat, r = k := ⟨r.toNat, by omega⟩
          refine ⟨c1, m1, jz (r : Int), jz (r : Int), ?_, ?_, a3, b3, Or.inr ⟨_, _, r, by omega, rfl, rfl, a2, b2, by omega, b35⟩⟩
          · unfold fPr_readKnownName
            rw [a1, Option.bind_some]
            dsimp only
            rw [d3, Option.bind_some, if_neg (by rw [show (-1 : Int32) = jz (-1) from rfl, jz_eq (by omega) (by omega) (by omega) (by omega)]; omega)]
          · unfold fM_guestHere
            rw [b1, Option.bind_some]
            dsimp only
            rw [d4, Option.bind_some, mR_5 b2, if_pos rfl, if_neg (by rw [show (-1 : Int32) = jz (-1) from rfl, jz_eq (by omega) (by omega) (by omega) (by omega)]; omega)]
            unfold fM_guestHere_j32
            rw [mR_5 b2, if_pos rfl]
  · obtain ⟨c1, a1, a2, a3⟩ := r1 k1
    obtain ⟨m1, b1, b2, b3⟩ := q1 k1
    exact bad a1 b1 a2 b2 a3 b3
end XK
