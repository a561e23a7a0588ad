/-! a SUM by itself, on both sides -/
section XZ
variable {dd : Nat} {v : Int32} {n : Nat} {T : Nat → Nat} {o : Nat} {md : Int} {b b' : Nat} {a : Int} {W : List Int} {e : Int} {s : Nat} {L C π : List Int} {hc hm : jH} {f pl : Int}
theorem mO_base (O : mO W b a C md hm) (hb : b' ≤ W.length) : mO W b' a C md (jhI hm 110 84 (jz b')) := by
  obtain ⟨o1, o2, o3, o4, o5, o6, o7, o8, o9, o10, o11, o12, o13⟩ := O
  refine ⟨?_, fun i hi => ?_, rfl, hb, ?_, ?_, fun j hj => ?_, ?_, o9, o10, o11, o12, o13⟩
  · rw [jhI_1, if_neg (by omega)]; exact o1
  · rw [jhI_1, if_neg (by omega)]; exact o2 i hi
  · rw [jhI_1, if_neg (by omega)]; exact o5
  · rw [jhI_1, if_neg (by omega)]; exact o6
  · rw [jhI_1, if_neg (by omega)]; exact o7 j hj
  · rw [jhI_1, if_neg (by omega)]; exact o8
theorem l53_all : ∀ (π C : List Int) (h : jH), mR n T e s h → mO (π ++ W) b a C md h → W.length = b → C.length + π.length ≤ 1600 → ∃ h', jlim (fM_qSums_l53 v) h = some h' ∧ mO W b a (C ++ π) md h' ∧ eFr xq h h' := by
  intro π
  induction π with
  | nil =>
    intro C h R O hb _
    rw [List.append_nil]
    refine ⟨h, ?_, O, eFr_refl _ _⟩
    have O0 := O
    obtain ⟨o1, o2, o3, o4, o5, o6, o7, o8, o9, o10, o11, o12, o13⟩ := O0
    rw [List.nil_append] at o1 o9
    rw [jlim_1]
    show lim1 _ (fM_qSums_l53_b v h) = _
    unfold fM_qSums_l53_b
    rw [mR_5 R, if_pos rfl, o3, if_neg (by rw [o1, jz_lt (by omega) (by omega) (by omega) (by omega)]; omega)]
    rfl
  | cons y π ih =>
    intro C h R O hb hl
    simp only [List.length_cons] at hl
    have O0 : mO (y :: (π ++ W)) b a C md h := O
    obtain ⟨h1, q1, q2, q3⟩ := sM_drops O0 (by rw [List.length_append]; omega) (by omega)
    obtain ⟨h2, p1, p2, p3⟩ := ih (C ++ [y]) h1 (mR_q R q3) q2 hb (by rw [List.length_append, List.length_singleton]; omega)
    refine ⟨h2, ?_, by rw [List.append_assoc] at p2; exact p2, eFr_trans q3 p3⟩
    have o1 := O0.1
    have o3 := O0.2.2.1
    have o9 := O0.2.2.2.2.2.2.2.2.1
    simp only [List.length_cons, List.length_append] at o1 o9
    rw [jlim_1]
    show lim1 _ (fM_qSums_l53_b v h) = _
    unfold fM_qSums_l53_b
    rw [mR_5 R, if_pos rfl, o3, if_pos (by rw [o1, jz_lt (by omega) (by omega) (by omega) (by omega)]; omega), q1, Option.bind_some]
    exact p1
theorem l53_F (R : mF n T f pl hm) : jlim (fM_qSums_l53 v) hm = some hm := by
  rw [jlim_1]
  show lim1 _ (fM_qSums_l53_b v hm) = _
  unfold fM_qSums_l53_b
  rw [if_neg (mF_5 R)]
  rfl
theorem sums_F {K : Nat} (hK : K ≠ 0) (R : cF f pl hc) (x : Int32) : fFo_grp K 3 o x 0 hc = some hc := by
  cases K with
  | zero => exact absurd rfl hK
  | succ K =>
    show fFo_readSum_g (fFo_grp K) o x hc = _
    unfold fFo_readSum_g fRd_failed
    obtain ⟨r1, r2, r3, -⟩ := R
    rw [r3, if_neg (show ¬ jz f = 0 by rw [show (0 : Int32) = jz 0 from rfl, jz_eq (by omega) (by omega) (by omega) (by omega)]; omega), if_neg (by decide)]
/-- a SUM -/
theorem sums_ok {K : Nat} (hK : 28 ≤ K) (ha : 0 ≤ a ∧ a ≤ 6) (R : cR n T e s hc) (O : cO o L md hc) (R' : mR n T e s hm) (O' : mO W b a C md hm) (rl : xRel md L C) (hl : C.length + W.length + dd ≤ s) (hh : xhd (fun x => ¬ xop x) W) : ∃ hc', fFo_grp K 3 o (jz a) 0 hc = some hc' ∧ eFr (xc o) hc hc' ∧ ((∃ f pl hm', cF f pl hc' ∧ xcnt o hc' ∧ fM_qSums hm = some hm' ∧ mF n T f pl hm' ∧ xgF hm hm') ∨ (∃ e' s' l C' hm', fM_qSums hm = some hm' ∧ cR n T e' s' hc' ∧ cO o (L ++ l) md hc' ∧ mL n T e' s' hm' ∧ mO W b a C' md hm' ∧ xRel md (L ++ l) C' ∧ C'.length + W.length + dd ≤ s' ∧ s < s' ∧ jseg (pm a + 2) l ∧ (∀ x ∈ l, xst md x) ∧ xno n T s' ∧ eFr xg hm hm')) := by
  have me := mR_e R'
  have o1 := O'.1
  have o3 := O'.2.2.1
  have o4 := O'.2.2.2.1
  obtain ⟨h1, hh1⟩ : ∃ h1, h1 = jhI hm 110 84 (jz W.length) := ⟨_, rfl⟩
  have f1 : eFr xq hm h1 := by rw [hh1]; exact xq_I (eFr_refl _ _) (Or.inr (Or.inr (Or.inr rfl))) _
  have R1 := mR_q R' f1
  have O1 : mO W W.length a C md h1 := by rw [hh1]; exact mO_base O' (Nat.le_refl _)
  obtain ⟨m, hm6, rfl⟩ : ∃ m : Nat, m ≤ 6 ∧ a = 6 - (m : Int) := ⟨(6 - a).toNat, by omega, by omega⟩
  have SL := (xSum_all (dd := dd) (v := jz b) (n := n) (T := T) (o := o) (md := md) (b := W.length) m hm6).2 K (by omega)
  obtain ⟨hc', g1, g2, g3⟩ := SL W e s L C hc h1 (xS_mk R O R1 O1 rl hl (Nat.le_refl _)) (Or.inl rfl) hh
  have qs : fM_qSums hm = Option.bind (kP (jz b) h1) (fun x7 => Option.bind (jlim (fM_qSums_l53 (jz b)) x7) (fun x11 => some (jhI x11 110 84 (jz b)))) := by
    unfold fM_qSums
    rw [o3, o1, ← hh1, kP_eq (mR_5 R1)]
  refine ⟨hc', g1, g2, ?_⟩
  rcases g3 with ⟨f', pl', h5, b1, b2, b3, b4, b5⟩ | ⟨e5, s5, l5, C5, π5, h5, d1, d2, ⟨d3, no⟩, d4, d5, d6, d7⟩
  · have f5 : eFr xq h5 (jhI h5 110 84 (jz b)) := xq_I (eFr_refl _ _) (Or.inr (Or.inr (Or.inr rfl))) _
    refine Or.inl ⟨f', pl', jhI h5 110 84 (jz b), b1, b2, ?_, mF_q b4 f5, eFr_trans (xg_q f1) (eFr_trans b5.1 (xg_q f5)), ?_⟩
    rotate_left
    · obtain ⟨c, w, c1, c2, c3⟩ := b5.2
      exact ⟨c, w, c1, by rw [jhI_1, if_neg (by omega)]; exact c2, by rw [jhI_1, if_neg (by omega)]; exact c3⟩
    rw [qs, b3, Option.bind_some, l53_F b4, Option.bind_some]
  · obtain ⟨u1, u2, u3, u4, u5, u6, u7⟩ := d2
    have me5 := mR_e u3
    obtain ⟨h6, k1, k2, k3, k4⟩ := kG_end (v := jz b) u3 u4 d3 rfl no
    obtain ⟨h7, p1, p2, p3⟩ := l53_all (v := jz b) π5 C5 h6 k2.1 k3 rfl (by omega)
    have f7 : eFr xq h7 (jhI h7 110 84 (jz b)) := xq_I (eFr_refl _ _) (Or.inr (Or.inr (Or.inr rfl))) _
    refine Or.inr ⟨e5, s5, l5, C5 ++ π5, jhI h7 110 84 (jz b), ?_, u1, u2, mL_q (mL_q k2 p3) f7, mO_base p2 o4, u5, by rw [List.length_append]; omega, d4, d5, d6, no, eFr_trans (xg_q f1) (eFr_trans d7 (eFr_trans k4 (xg_q (eFr_trans p3 f7))))⟩
    rw [qs, d1, k1, Option.bind_some, p1, Option.bind_some]
end XZ
