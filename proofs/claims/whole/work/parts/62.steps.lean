/-! SUM and TESTtheorem sFo_rfact (R : cR n T e s h) (O : cO o L md h) (hmd : md = 0 ∨ md = 1) : (0 ≤ xQw n T e s ∧ xQw n T e s < 7 ∧ (md = 1 ∨ xQw n T e s < 4) → ∃ h', fFo_factThatStands o h = jz (xfa (xQw n T e s).toNat) ∧ fRd_step h = some h' ∧ cR n T (xRun n T xL s) (xSk n T (xRun n T xL s)) h' ∧ eFr x6 h h') ∧ (¬ (0 ≤ xQw n T e s ∧ xQw n T e s < 7 ∧ (md = 1 ∨ xQw n T e s < 4)) → fFo_factThatStands o h = -1) := by
  have o3 := O.2.2.1
  have sw : ∀ i, i < 31 → fRd_standsWord (1000 + i) h = if xHas n T e s (xw i) = true then jz 1 else jz 0 := fun i hi => sRd_word R hi
  have stp : ∀ i, i < 31 → xHas n T e s (xw i) = true → ∃ h', fRd_step h = some h' ∧ cR n T (xRun n T xL s) (xSk n T (xRun n T xL s)) h' ∧ eFr x6 h h' := fun i hi y => by
    obtain ⟨w1, w2, w3, w4⟩ := xw_ok hi
    have cl := xHas_L w1 w4 y
    obtain ⟨⟨c0, ce, -⟩, -⟩ := xHas_iff.mp y
    exact sRd_stepL R c0 cl ce
  unfold fFo_factThatStands xQw
  by_cases c0 : xHas n T e s (xw 15) = true
  · obtain ⟨h', p1, p2, p3⟩ := stp 15 (by omega) c0
    simp only [if_pos c0]
    refine ⟨fun _ => ⟨h', ?_, p1, p2, p3⟩, fun t => absurd ⟨by omega, by omega, by omega⟩ t⟩
    rw [show fRd_standsWord 1015 h = _ from sw 15 (by omega), if_pos c0, if_neg (show ¬ jz 1 = 0 by decide)]
    rfl
  simp only [if_neg c0]
  rw [show fRd_standsWord 1015 h = _ from sw 15 (by omega), if_neg c0, if_pos (show jz 0 = 0 from rfl)]
  by_cases c1 : xHas n T e s (xw 8) = true
  · obtain ⟨h', p1, p2, p3⟩ := stp 8 (by omega) c1
    simp only [if_pos c1]
    refine ⟨fun _ => ⟨h', ?_, p1, p2, p3⟩, fun t => absurd ⟨by omega, by omega, by omega⟩ t⟩
    rw [show fRd_standsWord 1008 h = _ from sw 8 (by omega), if_pos c1, if_neg (show ¬ jz 1 = 0 by decide)]
    rfl
  simp only [if_neg c1]
  rw [show fRd_standsWord 1008 h = _ from sw 8 (by omega), if_neg c1, if_pos (show jz 0 = 0 from rfl)]
  by_cases c2 : xHas n T e s (xw 6) = true
  · obtain ⟨h', p1, p2, p3⟩ := stp 6 (by omega) c2
    simp only [if_pos c2]
    refine ⟨fun _ => ⟨h', ?_, p1, p2, p3⟩, fun t => absurd ⟨by omega, by omega, by omega⟩ t⟩
    rw [show fRd_standsWord 1006 h = _ from sw 6 (by omega), if_pos c2, if_neg (show ¬ jz 1 = 0 by decide)]
    rfl
  simp only [if_neg c2]
  rw [show fRd_standsWord 1006 h = _ from sw 6 (by omega), if_neg c2, if_pos (show jz 0 = 0 from rfl)]
  by_cases c3 : xHas n T e s (xw 16) = true
  · obtain ⟨h', p1, p2, p3⟩ := stp 16 (by omega) c3
    simp only [if_pos c3]
    refine ⟨fun _ => ⟨h', ?_, p1, p2, p3⟩, fun t => absurd ⟨by omega, by omega, by omega⟩ t⟩
    rw [show fRd_standsWord 1016 h = _ from sw 16 (by omega), if_pos c3, if_neg (show ¬ jz 1 = 0 by decide)]
    rfl
  simp only [if_neg c3]
  rw [show fRd_standsWord 1016 h = _ from sw 16 (by omega), if_neg c3, if_pos (show jz 0 = 0 from rfl)]
  unfold fFo_factThatStands_j68 fFo_factThatStands_j87
  rw [o3]
  rcases hmd with rfl | rfl
  · rw [if_pos (show jz 0 = 0 from rfl), if_pos (show jz 0 = 0 from rfl), if_pos (show jz 0 = 0 from rfl)]
    refine ⟨fun t => ?_, fun _ => rfl⟩
    exfalso
    obtain ⟨t1, t2, t3⟩ := t
    have t4 := t3.resolve_left (by omega)
    revert t1 t4
    repeat' split
    all_goals omega
  rw [if_neg (show ¬ jz 1 = 0 by decide)]
  by_cases c4 : xHas n T e s (xw 17) = true
  · obtain ⟨h', p1, p2, p3⟩ := stp 17 (by omega) c4
    simp only [if_pos c4]
    refine ⟨fun _ => ⟨h', ?_, p1, p2, p3⟩, fun t => absurd ⟨by omega, by omega, by simp⟩ t⟩
    rw [show fRd_standsWord 1017 h = _ from sw 17 (by omega), if_pos c4, if_neg (show ¬ jz 1 = 0 by decide)]
    rfl
  simp only [if_neg c4]
  rw [show fRd_standsWord 1017 h = _ from sw 17 (by omega), if_neg c4, if_pos (show jz 0 = 0 from rfl)]
  rw [if_neg (show ¬ jz 1 = 0 by decide)]
  by_cases c5 : xHas n T e s (xw 18) = true
  · obtain ⟨h', p1, p2, p3⟩ := stp 18 (by omega) c5
    simp only [if_pos c5]
    refine ⟨fun _ => ⟨h', ?_, p1, p2, p3⟩, fun t => absurd ⟨by omega, by omega, by simp⟩ t⟩
    rw [show fRd_standsWord 1018 h = _ from sw 18 (by omega), if_pos c5, if_neg (show ¬ jz 1 = 0 by decide)]
    rfl
  simp only [if_neg c5]
  rw [show fRd_standsWord 1018 h = _ from sw 18 (by omega), if_neg c5, if_pos (show jz 0 = 0 from rfl)]
  rw [if_neg (show ¬ jz 1 = 0 by decide)]
  by_cases c6 : xHas n T e s (xw 5) = true
  · obtain ⟨h', p1, p2, p3⟩ := stp 5 (by omega) c6
    simp only [if_pos c6]
    refine ⟨fun _ => ⟨h', ?_, p1, p2, p3⟩, fun t => absurd ⟨by omega, by omega, by simp⟩ t⟩
    rw [show fRd_standsWord 1005 h = _ from sw 5 (by omega), if_pos c6, if_neg (show ¬ jz 1 = 0 by decide)]
    rfl
  simp only [if_neg c6]
  rw [show fRd_standsWord 1005 h = _ from sw 5 (by omega), if_neg c6, if_pos (show jz 0 = 0 from rfl)]
  refine ⟨fun t => ?_, fun _ => rfl⟩
  exfalso
  obtain ⟨t1, t2, -⟩ := t
  revert t1 t2
  split <;> omega
end XQ
