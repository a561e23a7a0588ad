noncomputable def fM_lateBy_l29_j97 (v1 : Int32) (v2 : Int32) (h : jH) : Option ((Int32 × jH) ⊕ (jH)) :=
  some (.inl (v2 + 1, h))
theorem kM_lateBy_l29_j97 {X : jX} {dd : Nat} {p d : Nat} {q : Nat → Nat} {Q : Option Value → jS → Prop} {v1 : Int32} {v2 : Int32} {h : jH}  (hd : 3 ≤ (dd + 1)) {z : (Int32 × jH) ⊕ (jH)} (K : fM_lateBy_l29_j97 v1 v2 h = some z) (HL : ∀ s : Int32 × jH, z = .inl s → jEx X (dd + 1) jc_246 29 [some (.ref 110), some (.int v1), some (.int s.1), none] [] (176, jRf p d q, s.2) Q) (HE0 : ∀ x : jH, z = .inr x → jEx X (dd + 1) jc_246 103 [some (.ref 110), none, none, none] [] (176, jRf p d q, x) Q) :
    jEx X (dd + 1) jc_246 97 [some (.ref 110), some (.int v1), some (.int v2), none] [] (176, jRf p d q, h) Q := by
  unfold fM_lateBy_l29_j97 at K
  refine jx_inc (pc := 97) (x := v2) (p2 := [some (.ref 110), some (.int v1), some (.int (v2 + 1)), none]) rfl rfl (jlt rfl) rfl ?_
  refine jx_next (pc := 100) (pc' := 29) rfl rfl ?_
  obtain rfl := Option.some.inj K
  refine jx_le (pl' := [some (.ref 110), some (.int v1), some (.int (v2 + 1)), none]) (jle_v (jle_v (jle_v (jle_n jle_nil)))) ?_
  exact HL (v2 + 1, h) rfl
noncomputable def fM_lateBy_l29_b (v1 : Int32) (v2 : Int32) (h : jH) : Option ((Int32 × jH) ⊕ (jH)) :=
  (if jin 1 2 then
  (if v2 < (h.1 146 (1 : Int32).toNatClampNeg) then
  (if jin (1600 + v2) 3200 then
  (if (h.1 147 (1600 + v2).toNatClampNeg) < 1000 then
  (if (h.1 147 (1600 + v2).toNatClampNeg) < 40 then
  (Option.bind (fM_qJoins (h.1 147 (1600 + v2).toNatClampNeg) h) (fun (z9 : jH) =>
  fM_lateBy_l29_j97  v1 v2 z9))
  else
  (Option.bind (fM_qPartOf ((h.1 147 (1600 + v2).toNatClampNeg) - 40) v1 h) (fun (z10 : Int64) =>
  (Option.bind (fM_qPuts z10 h) (fun (z11 : jH) =>
  fM_lateBy_l29_j97  v1 v2 z11)))))
  else
  (Option.bind (fM_qPuts (((h.1 147 (1600 + v2).toNatClampNeg) - 1000).toInt64) h) (fun (z12 : jH) =>
  fM_lateBy_l29_j97  v1 v2 z12)))
  else none)
  else
  some (.inr h))
  else none)
noncomputable def fM_lateBy_l29 (v1 : Int32) : (Int32 × jH) → Option ((Int32 × jH) ⊕ (jH)) :=
  fun (s : Int32 × jH) => fM_lateBy_l29_b v1 s.1 s.2
theorem kM_lateBy_l29_b {X : jX} {dd : Nat} {p d : Nat} {q : Nat → Nat} {Q : Option Value → jS → Prop} {v1 : Int32} {v2 : Int32} {h : jH}  (hd : 3 ≤ (dd + 1)) {z : (Int32 × jH) ⊕ (jH)} (K : fM_lateBy_l29_b v1 v2 h = some z) (HL : ∀ s : Int32 × jH, z = .inl s → jEx X (dd + 1) jc_246 29 [some (.ref 110), some (.int v1), some (.int s.1), none] [] (176, jRf p d q, s.2) Q) (HE0 : ∀ x : jH, z = .inr x → jEx X (dd + 1) jc_246 103 [some (.ref 110), none, none, none] [] (176, jRf p d q, x) Q) :
    jEx X (dd + 1) jc_246 29 [some (.ref 110), some (.int v1), some (.int v2), none] [] (176, jRf p d q, h) Q := by
  unfold fM_lateBy_l29_b at K
  refine jx_next (pc := 29) (pc' := 30) rfl rfl ?_
  refine jx_next (pc := 30) (pc' := 31) rfl rfl ?_
  refine jx_getr2 (pc := 31) rfl jko_110 jr_12_44 ?_
  refine jx_next (pc := 34) (pc' := 35) rfl rfl ?_
  obtain ⟨hg4, K⟩ := jguard K
  refine jx_iald2 (pc := 35) rfl jko_146 jno_146 hg4 ?_
  refine jx_icge (pc := 36) rfl (fun hc5 => ?_) (fun hc5 => ?_)
  · replace K := (if_pos hc5).symm.trans K
    refine jx_next (pc := 39) (pc' := 40) rfl rfl ?_
    refine jx_getr2 (pc := 40) rfl jko_110 jr_12_45 ?_
    refine jx_next (pc := 43) (pc' := 46) rfl rfl ?_
    refine jx_next (pc := 46) (pc' := 47) rfl rfl ?_
    refine jx_next (pc := 47) (pc' := 48) rfl rfl ?_
    obtain ⟨hg6, K⟩ := jguard K
    refine jx_iald2 (pc := 48) rfl jko_147 jno_147 hg6 ?_
    refine jx_stin (pc := 49) (p2 := [some (.ref 110), some (.int v1), some (.int v2), some (.int (h.1 147 (1600 + v2).toNatClampNeg))]) rfl (jlt rfl) rfl ?_
    refine jx_next (pc := 50) (pc' := 51) rfl rfl ?_
    refine jx_next (pc := 51) (pc' := 54) rfl rfl ?_
    refine jx_iclt (pc := 54) rfl (fun hc7 => ?_) (fun hc7 => ?_)
    · replace K := (if_pos hc7).symm.trans K
      refine jx_next (pc := 70) (pc' := 71) rfl rfl ?_
      refine jx_next (pc := 71) (pc' := 73) rfl rfl ?_
      refine jx_iclt (pc := 73) rfl (fun hc8 => ?_) (fun hc8 => ?_)
      · replace K := (if_pos hc8).symm.trans K
        refine jx_next (pc := 92) (pc' := 93) rfl rfl ?_
        refine jx_next (pc := 93) (pc' := 94) rfl rfl ?_
        refine jx_callv (pc := 94) (o := 110) (rest := []) rfl ⟨by decide, by decide⟩ rfl jko_110 (Nat.le_of_ble_eq_true rfl) ?_
        obtain ⟨z9, hz_z9, K⟩ := Option.bind_eq_some_iff.mp K
        refine kM_qJoins  (by omega) hz_z9 ?_
        refine jx_le (pl' := [some (.ref 110), some (.int v1), some (.int v2), none]) (jle_v (jle_v (jle_v (jle_n jle_nil)))) ?_
        exact kM_lateBy_l29_j97  hd K HL HE0
      · replace K := (if_neg hc8).symm.trans K
        refine jx_next (pc := 76) (pc' := 77) rfl rfl ?_
        refine jx_next (pc := 77) (pc' := 78) rfl rfl ?_
        refine jx_next (pc := 78) (pc' := 79) rfl rfl ?_
        refine jx_next (pc := 79) (pc' := 81) rfl rfl ?_
        refine jx_next (pc := 81) (pc' := 82) rfl rfl ?_
        refine jx_next (pc := 82) (pc' := 83) rfl rfl ?_
        refine jx_callv (pc := 83) (o := 110) (rest := [.ref 110]) rfl ⟨by decide, by decide⟩ rfl jko_110 (Nat.le_of_ble_eq_true rfl) ?_
        obtain ⟨z10, hz_z10, K⟩ := Option.bind_eq_some_iff.mp K
        refine kM_qPartOf  (by omega) hz_z10 ?_
        refine jx_callv (pc := 86) (o := 110) (rest := []) rfl ⟨by decide, by decide⟩ rfl jko_110 (Nat.le_of_ble_eq_true rfl) ?_
        obtain ⟨z11, hz_z11, K⟩ := Option.bind_eq_some_iff.mp K
        refine kM_qPuts  (by omega) hz_z11 ?_
        refine jx_next (pc := 89) (pc' := 97) rfl rfl ?_
        refine jx_le (pl' := [some (.ref 110), some (.int v1), some (.int v2), none]) (jle_v (jle_v (jle_v (jle_n jle_nil)))) ?_
        exact kM_lateBy_l29_j97  hd K HL HE0
    · replace K := (if_neg hc7).symm.trans K
      refine jx_next (pc := 57) (pc' := 58) rfl rfl ?_
      refine jx_next (pc := 58) (pc' := 59) rfl rfl ?_
      refine jx_next (pc := 59) (pc' := 62) rfl rfl ?_
      refine jx_next (pc := 62) (pc' := 63) rfl rfl ?_
      refine jx_next (pc := 63) (pc' := 64) rfl rfl ?_
      refine jx_callv (pc := 64) (o := 110) (rest := []) rfl ⟨by decide, by decide⟩ rfl jko_110 (Nat.le_of_ble_eq_true rfl) ?_
      obtain ⟨z12, hz_z12, K⟩ := Option.bind_eq_some_iff.mp K
      refine kM_qPuts  (by omega) hz_z12 ?_
      refine jx_next (pc := 67) (pc' := 97) rfl rfl ?_
      refine jx_le (pl' := [some (.ref 110), some (.int v1), some (.int v2), none]) (jle_v (jle_v (jle_v (jle_n jle_nil)))) ?_
      exact kM_lateBy_l29_j97  hd K HL HE0
  · replace K := (if_neg hc5).symm.trans K
    obtain rfl := Option.some.inj K
    refine jx_le (pl' := [some (.ref 110), none, none, none]) (jle_v (jle_n (jle_n (jle_n jle_nil)))) ?_
    exact HE0 _ rfl
theorem kM_lateBy_l29_w {X : jX} {dd : Nat} {p d : Nat} {q : Nat → Nat} {Q : Option Value → jS → Prop} {v1 : Int32}  (hd : 3 ≤ (dd + 1)) {s : Int32 × jH} {x : jH} (K : jlim (fM_lateBy_l29 v1) s = some x) (HE : jEx X (dd + 1) jc_246 103 [some (.ref 110), none, none, none] [] (176, jRf p d q, x) Q) :
    jEx X (dd + 1) jc_246 29 [some (.ref 110), some (.int v1), some (.int s.1), none] [] (176, jRf p d q, s.2) Q := by
  refine jlim_ok (G := fun s : Int32 × jH => jEx X (dd + 1) jc_246 29 [some (.ref 110), some (.int v1), some (.int s.1), none] [] (176, jRf p d q, s.2) Q) (GX := fun x : jH => jEx X (dd + 1) jc_246 103 [some (.ref 110), none, none, none] [] (176, jRf p d q, x) Q) (fun s z hz HL HE => ?_) K HE
  exact kM_lateBy_l29_b  hd hz HL HE
/-- AndGuestModel.lateBy(I)J -/
noncomputable def fM_lateBy (v1 : Int32) (h : jH) : Option (Int64 × jH) :=
  (if jin 1 2 then
  (if (h.1 145 (1 : Int32).toNatClampNeg) = (-1) then
  some (0, h)
  else
  (if jin 1 2 then
  (Option.bind (jlim (fM_lateBy_l29  v1) ((jhI (jhI h 110 49 1) 110 86 0).1 145 (1 : Int32).toNatClampNeg, jhI (jhI h 110 49 1) 110 86 0)) (fun (x13 : jH) =>
  (if jin 0 1700 then
  (if (x13.2 175 (0 : Int32).toNatClampNeg) < 0 then
  some (0, x13)
  else
  (if jin 0 1700 then
  (if 999 < (x13.2 175 (0 : Int32).toNatClampNeg) then
  some (999, x13)
  else
  (if jin 0 1700 then
  some (x13.2 175 (0 : Int32).toNatClampNeg, x13)
  else none))
  else none))
  else none)))
  else none))
  else none)
theorem kM_lateBy {X : jX} {dd : Nat} {p d : Nat} {q : Nat → Nat} {Q : Option Value → jS → Prop} {v1 : Int32} {h : jH}  (hd : 3 ≤ dd) {z : Int64 × jH} (K : fM_lateBy v1 h = some z) (HQ : Q (some (.long z.1)) (176, jRf p d q, z.2)) :
    jCa X dd 246 [.ref 110, .int v1] (176, jRf p d q, h) Q := by
  obtain ⟨dd, rfl⟩ : ∃ d9, dd = d9 + 1 := ⟨dd - 1, by omega⟩
  unfold fM_lateBy at K
  refine jCa_of (es := jc_246) (pl := [some (.ref 110), some (.int v1), none, none]) (M := jm_246) rfl rfl rfl rfl ?_
  refine jx_next (pc := 0) (pc' := 1) rfl rfl ?_
  refine jx_getr2 (pc := 1) rfl jko_110 jr_12_43 ?_
  refine jx_next (pc := 4) (pc' := 5) rfl rfl ?_
  obtain ⟨hg1, K⟩ := jguard K
  refine jx_iald2 (pc := 5) rfl jko_145 jno_145 hg1 ?_
  refine jx_next (pc := 6) (pc' := 7) rfl rfl ?_
  refine jx_icne (pc := 7) rfl (fun hc2 => ?_) (fun hc2 => ?_)
  · replace K := (if_pos hc2).symm.trans K
    refine jx_next (pc := 10) (pc' := 11) rfl rfl ?_
    obtain rfl := Option.some.inj K
    exact jx_ret (pc := 11) rfl rfl HQ
  · replace K := (if_neg hc2).symm.trans K
    refine jx_next (pc := 12) (pc' := 13) rfl rfl ?_
    refine jx_next (pc := 13) (pc' := 14) rfl rfl ?_
    refine jx_putz (pc := 14) rfl jko_110 (Or.inr rfl) ?_
    refine jx_next (pc := 17) (pc' := 18) rfl rfl ?_
    refine jx_next (pc := 18) (pc' := 19) rfl rfl ?_
    refine jx_puti (pc := 19) rfl jko_110 ?_
    refine jx_next (pc := 22) (pc' := 23) rfl rfl ?_
    refine jx_getr2 (pc := 23) rfl jko_110 jr_12_43 ?_
    refine jx_next (pc := 26) (pc' := 27) rfl rfl ?_
    obtain ⟨hg3, K⟩ := jguard K
    refine jx_iald2 (pc := 27) rfl jko_145 jno_145 hg3 ?_
    refine jx_stin (pc := 28) (p2 := [some (.ref 110), some (.int v1), some (.int ((jhI (jhI h 110 49 1) 110 86 0).1 145 (1 : Int32).toNatClampNeg)), none]) rfl (jlt rfl) rfl ?_
    refine jx_le (pl' := [some (.ref 110), some (.int v1), some (.int ((jhI (jhI h 110 49 1) 110 86 0).1 145 (1 : Int32).toNatClampNeg)), none]) (jle_v (jle_v (jle_v (jle_n jle_nil)))) ?_
    obtain ⟨x13, hz_x13, K⟩ := Option.bind_eq_some_iff.mp K
    refine kM_lateBy_l29_w  hd hz_x13 ?_
    refine jx_next (pc := 103) (pc' := 104) rfl rfl ?_
    refine jx_getr2 (pc := 104) rfl jko_110 jr_12_85 ?_
    refine jx_next (pc := 107) (pc' := 108) rfl rfl ?_
    obtain ⟨hg14, K⟩ := jguard K
    refine jx_lald2 (pc := 108) rfl jko_175 jno_175 hg14 ?_
    refine jx_next (pc := 109) (pc' := 110) rfl rfl ?_
    refine jx_lcge (pc := 110) rfl rfl (fun hc15 => ?_) (fun hc15 => ?_)
    · replace K := (if_pos hc15).symm.trans K
      refine jx_next (pc := 114) (pc' := 115) rfl rfl ?_
      refine jx_next (pc := 115) (pc' := 143) rfl rfl ?_
      obtain rfl := Option.some.inj K
      exact jx_ret (pc := 143) rfl rfl HQ
    · replace K := (if_neg hc15).symm.trans K
      refine jx_next (pc := 118) (pc' := 119) rfl rfl ?_
      refine jx_getr2 (pc := 119) rfl jko_110 jr_12_85 ?_
      refine jx_next (pc := 122) (pc' := 123) rfl rfl ?_
      obtain ⟨hg16, K⟩ := jguard K
      refine jx_lald2 (pc := 123) rfl jko_175 jno_175 hg16 ?_
      refine jx_next (pc := 124) (pc' := 127) rfl rfl ?_
      refine jx_lcle (pc := 127) rfl rfl (fun hc17 => ?_) (fun hc17 => ?_)
      · replace K := (if_pos hc17).symm.trans K
        refine jx_next (pc := 131) (pc' := 134) rfl rfl ?_
        refine jx_next (pc := 134) (pc' := 143) rfl rfl ?_
        obtain rfl := Option.some.inj K
        exact jx_ret (pc := 143) rfl rfl HQ
      · replace K := (if_neg hc17).symm.trans K
        refine jx_next (pc := 137) (pc' := 138) rfl rfl ?_
        refine jx_getr2 (pc := 138) rfl jko_110 jr_12_85 ?_
        refine jx_next (pc := 141) (pc' := 142) rfl rfl ?_
        obtain ⟨hg18, K⟩ := jguard K
        refine jx_lald2 (pc := 142) rfl jko_175 jno_175 hg18 ?_
        obtain rfl := Option.some.inj K
        exact jx_ret (pc := 143) rfl rfl HQ
/-- AndGuestModel.offenceOf(I)I -/
noncomputable def fM_offenceOf (v1 : Int32) (h : jH) : Option (Int32 × jH) :=
  (Option.bind (fM_isAsked v1 h) (fun (z1 : Int32) =>
  (if z1 = 0 then
  (if jin (8 + v1) 16 then
  (Option.bind (fM_askedSet h) (fun (z4 : Int32) =>
  (if ((h.1 143 (8 + v1).toNatClampNeg) &&& z4) = 0 then
  some (0, h)
  else
  (if jin (35 + (4 * v1)) 64 then
  some (h.1 141 (35 + (4 * v1)).toNatClampNeg, h)
  else none))))
  else none)
  else
  (Option.bind (fM_weeksOf v1 h) (fun (z7 : Int32) =>
  (if 0 < z7 then
  (Option.bind (fM_lateBy v1 h) (fun (z9 : Int64 × jH) =>
  some (z9.1.toInt32, z9.2)))
  else
  some (0, h)))))))
theorem kM_offenceOf {X : jX} {dd : Nat} {p d : Nat} {q : Nat → Nat} {Q : Option Value → jS → Prop} {v1 : Int32} {h : jH}  (hd : 4 ≤ dd) {z : Int32 × jH} (K : fM_offenceOf v1 h = some z) (HQ : Q (some (.int z.1)) (176, jRf p d q, z.2)) :
    jCa X dd 244 [.ref 110, .int v1] (176, jRf p d q, h) Q := by
  obtain ⟨dd, rfl⟩ : ∃ d9, dd = d9 + 1 := ⟨dd - 1, by omega⟩
  unfold fM_offenceOf at K
  refine jCa_of (es := jc_244) (pl := [some (.ref 110), some (.int v1)]) (M := jm_244) rfl rfl rfl rfl ?_
  refine jx_next (pc := 0) (pc' := 1) rfl rfl ?_
  refine jx_next (pc := 1) (pc' := 2) rfl rfl ?_
  refine jx_callv (pc := 2) (o := 110) (rest := []) rfl ⟨by decide, by decide⟩ rfl jko_110 (Nat.le_of_ble_eq_true rfl) ?_
  obtain ⟨z1, hz_z1, K⟩ := Option.bind_eq_some_iff.mp K
  refine kM_isAsked  (by omega) hz_z1 ?_
  refine jx_ifne (pc := 5) rfl (fun hc2 => ?_) (fun hc2 => ?_)
  · replace K := (if_pos hc2).symm.trans K
    refine jx_next (pc := 8) (pc' := 9) rfl rfl ?_
    refine jx_getr2 (pc := 9) rfl jko_110 jr_12_41 ?_
    refine jx_next (pc := 12) (pc' := 14) rfl rfl ?_
    refine jx_next (pc := 14) (pc' := 15) rfl rfl ?_
    refine jx_next (pc := 15) (pc' := 16) rfl rfl ?_
    obtain ⟨hg3, K⟩ := jguard K
    refine jx_iald2 (pc := 16) rfl jko_143 jno_143 hg3 ?_
    refine jx_next (pc := 17) (pc' := 18) rfl rfl ?_
    refine jx_callv (pc := 18) (o := 110) (rest := [.int (h.1 143 (8 + v1).toNatClampNeg)]) rfl ⟨by decide, by decide⟩ rfl jko_110 (Nat.le_of_ble_eq_true rfl) ?_
    obtain ⟨z4, hz_z4, K⟩ := Option.bind_eq_some_iff.mp K
    refine kM_askedSet  (by omega) hz_z4 ?_
    refine jx_next (pc := 21) (pc' := 22) rfl rfl ?_
    refine jx_ifeq (pc := 22) rfl (fun hc5 => ?_) (fun hc5 => ?_)
    · replace K := (if_pos hc5).symm.trans K
      refine jx_next (pc := 39) (pc' := 40) rfl rfl ?_
      obtain rfl := Option.some.inj K
      exact jx_iret (pc := 40) rfl HQ
    · replace K := (if_neg hc5).symm.trans K
      refine jx_next (pc := 25) (pc' := 26) rfl rfl ?_
      refine jx_getr2 (pc := 26) rfl jko_110 jr_12_39 ?_
      refine jx_next (pc := 29) (pc' := 31) rfl rfl ?_
      refine jx_next (pc := 31) (pc' := 32) rfl rfl ?_
      refine jx_next (pc := 32) (pc' := 33) rfl rfl ?_
      refine jx_next (pc := 33) (pc' := 34) rfl rfl ?_
      refine jx_next (pc := 34) (pc' := 35) rfl rfl ?_
      obtain ⟨hg6, K⟩ := jguard K
      refine jx_iald2 (pc := 35) rfl jko_141 jno_141 hg6 ?_
      refine jx_next (pc := 36) (pc' := 40) rfl rfl ?_
      obtain rfl := Option.some.inj K
      exact jx_iret (pc := 40) rfl HQ
  · replace K := (if_neg hc2).symm.trans K
    refine jx_next (pc := 41) (pc' := 42) rfl rfl ?_
    refine jx_next (pc := 42) (pc' := 43) rfl rfl ?_
    refine jx_callv (pc := 43) (o := 110) (rest := []) rfl ⟨by decide, by decide⟩ rfl jko_110 (Nat.le_of_ble_eq_true rfl) ?_
    obtain ⟨z7, hz_z7, K⟩ := Option.bind_eq_some_iff.mp K
    refine kM_weeksOf  (by omega) hz_z7 ?_
    refine jx_ifle (pc := 46) rfl (fun hc8 => ?_) (fun hc8 => ?_)
    · replace K := (if_pos hc8).symm.trans K
      refine jx_next (pc := 49) (pc' := 50) rfl rfl ?_
      refine jx_next (pc := 50) (pc' := 51) rfl rfl ?_
      refine jx_callv (pc := 51) (o := 110) (rest := []) rfl ⟨by decide, by decide⟩ rfl jko_110 (Nat.le_of_ble_eq_true rfl) ?_
      obtain ⟨z9, hz_z9, K⟩ := Option.bind_eq_some_iff.mp K
      refine kM_lateBy  (by omega) hz_z9 ?_
      refine jx_next (pc := 54) (pc' := 55) rfl rfl ?_
      refine jx_next (pc := 55) (pc' := 59) rfl rfl ?_
      obtain rfl := Option.some.inj K
      exact jx_iret (pc := 59) rfl HQ
    · replace K := (if_neg hc8).symm.trans K
      refine jx_next (pc := 58) (pc' := 59) rfl rfl ?_
      obtain rfl := Option.some.inj K
      exact jx_iret (pc := 59) rfl HQ
noncomputable def fM_guest_j56 (v1 : Int32) (v2 : Int32) (h : jH) : Option (Int32 × jH) :=
  (if jin ((32 + (4 * v1)) + v2) 64 then
  some (h.1 141 ((32 + (4 * v1)) + v2).toNatClampNeg, h)
  else none)
theorem kM_guest_j56 {X : jX} {dd : Nat} {p d : Nat} {q : Nat → Nat} {Q : Option Value → jS → Prop} {v1 : Int32} {v2 : Int32} {h : jH}  (hd : 5 ≤ (dd + 1)) {z : Int32 × jH} (K : fM_guest_j56 v1 v2 h = some z) (HQ : Q (some (.int z.1)) (176, jRf p d q, z.2)) :
    jEx X (dd + 1) jc_241 56 [some (.ref 110), some (.int v1), some (.int v2)] [] (176, jRf p d q, h) Q := by
  unfold fM_guest_j56 at K
  refine jx_next (pc := 56) (pc' := 57) rfl rfl ?_
  refine jx_getr2 (pc := 57) rfl jko_110 jr_12_39 ?_
  refine jx_next (pc := 60) (pc' := 62) rfl rfl ?_
  refine jx_next (pc := 62) (pc' := 63) rfl rfl ?_
  refine jx_next (pc := 63) (pc' := 64) rfl rfl ?_
  refine jx_next (pc := 64) (pc' := 65) rfl rfl ?_
  refine jx_next (pc := 65) (pc' := 66) rfl rfl ?_
  refine jx_next (pc := 66) (pc' := 67) rfl rfl ?_
  refine jx_next (pc := 67) (pc' := 68) rfl rfl ?_
  obtain ⟨hg3, K⟩ := jguard K
  refine jx_iald2 (pc := 68) rfl jko_141 jno_141 hg3 ?_
  obtain rfl := Option.some.inj K
  exact jx_iret (pc := 69) rfl HQ
/-- AndGuestModel.guest(II)I -/
noncomputable def fM_guest (v1 : Int32) (v2 : Int32) (h : jH) : Option (Int32 × jH) :=
  (Option.bind (fM_isGuest v1 h) (fun (z1 : Int32) =>
  (if z1 = 0 then
  some ((-1), h)
  else
  (if v2 = 0 then
  fM_guest_j56  v1 v2 h
  else
  (if v2 = 1 then
  fM_guest_j56  v1 v2 h
  else
  (if v2 = 2 then
  fM_guest_j56  v1 v2 h
  else
  (if v2 = 3 then
  fM_guest_j56  v1 v2 h
  else
  (if v2 = 4 then
  (Option.bind (fM_howOf v1 h) (fun (z4 : Int32) =>
  some (z4, h)))
  else
  (if v2 = 5 then
  (Option.bind (fM_tensOf v1 h) (fun (z5 : Int32) =>
  some (z5, h)))
  else
  (if v2 = 6 then
  (Option.bind (fM_offenceOf v1 h) (fun (z6 : Int32 × jH) =>
  some (z6.1, z6.2)))
  else
  (if v2 = 7 then
  (Option.bind (fM_isAsked v1 h) (fun (z7 : Int32) =>
  (if z7 = 0 then
  some ((-1), h)
  else
  (Option.bind (fM_weeksOf v1 h) (fun (z9 : Int32) =>
  some (z9, h))))))
  else
  some ((-1), h))))))))))))
theorem kM_guest {X : jX} {dd : Nat} {p d : Nat} {q : Nat → Nat} {Q : Option Value → jS → Prop} {v1 : Int32} {v2 : Int32} {h : jH}  (hd : 5 ≤ dd) {z : Int32 × jH} (K : fM_guest v1 v2 h = some z) (HQ : Q (some (.int z.1)) (176, jRf p d q, z.2)) :
    jCa X dd 241 [.ref 110, .int v1, .int v2] (176, jRf p d q, h) Q := by
  obtain ⟨dd, rfl⟩ : ∃ d9, dd = d9 + 1 := ⟨dd - 1, by omega⟩
  unfold fM_guest at K
  refine jCa_of (es := jc_241) (pl := [some (.ref 110), some (.int v1), some (.int v2)]) (M := jm_241) rfl rfl rfl rfl ?_
  refine jx_next (pc := 0) (pc' := 1) rfl rfl ?_
  refine jx_next (pc := 1) (pc' := 2) rfl rfl ?_
  refine jx_callv (pc := 2) (o := 110) (rest := []) rfl ⟨by decide, by decide⟩ rfl jko_110 (Nat.le_of_ble_eq_true rfl) ?_
  obtain ⟨z1, hz_z1, K⟩ := Option.bind_eq_some_iff.mp K
  refine kM_isGuest  (by omega) hz_z1 ?_
  refine jx_ifne (pc := 5) rfl (fun hc2 => ?_) (fun hc2 => ?_)
  · replace K := (if_pos hc2).symm.trans K
    refine jx_next (pc := 8) (pc' := 9) rfl rfl ?_
    obtain rfl := Option.some.inj K
    exact jx_iret (pc := 9) rfl HQ
  · replace K := (if_neg hc2).symm.trans K
    refine jx_next (pc := 10) (pc' := 11) rfl rfl ?_
    refine jx_tsw (pc := 11) rfl ?_
    refine jx_sw1 (fun hc17 => ?_) (fun hc17 => ?_)
    · replace K := (if_pos hc17).symm.trans K
      refine jx_le (pl' := [some (.ref 110), some (.int v1), some (.int v2)]) (jle_v (jle_v (jle_v jle_nil))) ?_
      exact kM_guest_j56  hd K HQ
    · replace K := (if_neg hc17).symm.trans K
      refine jx_sw1 (fun hc16 => ?_) (fun hc16 => ?_)
      · replace K := (if_pos hc16).symm.trans K
        refine jx_le (pl' := [some (.ref 110), some (.int v1), some (.int v2)]) (jle_v (jle_v (jle_v jle_nil))) ?_
        exact kM_guest_j56  hd K HQ
      · replace K := (if_neg hc16).symm.trans K
        refine jx_sw1 (fun hc15 => ?_) (fun hc15 => ?_)
        · replace K := (if_pos hc15).symm.trans K
          refine jx_le (pl' := [some (.ref 110), some (.int v1), some (.int v2)]) (jle_v (jle_v (jle_v jle_nil))) ?_
          exact kM_guest_j56  hd K HQ
        · replace K := (if_neg hc15).symm.trans K
          refine jx_sw1 (fun hc14 => ?_) (fun hc14 => ?_)
          · replace K := (if_pos hc14).symm.trans K
            refine jx_le (pl' := [some (.ref 110), some (.int v1), some (.int v2)]) (jle_v (jle_v (jle_v jle_nil))) ?_
            exact kM_guest_j56  hd K HQ
          · replace K := (if_neg hc14).symm.trans K
            refine jx_sw1 (fun hc13 => ?_) (fun hc13 => ?_)
            · replace K := (if_pos hc13).symm.trans K
              refine jx_next (pc := 70) (pc' := 71) rfl rfl ?_
              refine jx_next (pc := 71) (pc' := 72) rfl rfl ?_
              refine jx_callv (pc := 72) (o := 110) (rest := []) rfl ⟨by decide, by decide⟩ rfl jko_110 (Nat.le_of_ble_eq_true rfl) ?_
              obtain ⟨z4, hz_z4, K⟩ := Option.bind_eq_some_iff.mp K
              refine kM_howOf  (by omega) hz_z4 ?_
              obtain rfl := Option.some.inj K
              exact jx_iret (pc := 75) rfl HQ
            · replace K := (if_neg hc13).symm.trans K
              refine jx_sw1 (fun hc12 => ?_) (fun hc12 => ?_)
              · replace K := (if_pos hc12).symm.trans K
                refine jx_next (pc := 76) (pc' := 77) rfl rfl ?_
                refine jx_next (pc := 77) (pc' := 78) rfl rfl ?_
                refine jx_callv (pc := 78) (o := 110) (rest := []) rfl ⟨by decide, by decide⟩ rfl jko_110 (Nat.le_of_ble_eq_true rfl) ?_
                obtain ⟨z5, hz_z5, K⟩ := Option.bind_eq_some_iff.mp K
                refine kM_tensOf  (by omega) hz_z5 ?_
                obtain rfl := Option.some.inj K
                exact jx_iret (pc := 81) rfl HQ
              · replace K := (if_neg hc12).symm.trans K
                refine jx_sw1 (fun hc11 => ?_) (fun hc11 => ?_)
                · replace K := (if_pos hc11).symm.trans K
                  refine jx_next (pc := 82) (pc' := 83) rfl rfl ?_
                  refine jx_next (pc := 83) (pc' := 84) rfl rfl ?_
                  refine jx_callv (pc := 84) (o := 110) (rest := []) rfl ⟨by decide, by decide⟩ rfl jko_110 (Nat.le_of_ble_eq_true rfl) ?_
                  obtain ⟨z6, hz_z6, K⟩ := Option.bind_eq_some_iff.mp K
                  refine kM_offenceOf  (by omega) hz_z6 ?_
                  obtain rfl := Option.some.inj K
                  exact jx_iret (pc := 87) rfl HQ
                · replace K := (if_neg hc11).symm.trans K
                  refine jx_sw1 (fun hc10 => ?_) (fun hc10 => ?_)
                  · replace K := (if_pos hc10).symm.trans K
                    refine jx_next (pc := 88) (pc' := 89) rfl rfl ?_
                    refine jx_next (pc := 89) (pc' := 90) rfl rfl ?_
                    refine jx_callv (pc := 90) (o := 110) (rest := []) rfl ⟨by decide, by decide⟩ rfl jko_110 (Nat.le_of_ble_eq_true rfl) ?_
                    obtain ⟨z7, hz_z7, K⟩ := Option.bind_eq_some_iff.mp K
                    refine kM_isAsked  (by omega) hz_z7 ?_
                    refine jx_ifeq (pc := 93) rfl (fun hc8 => ?_) (fun hc8 => ?_)
                    · replace K := (if_pos hc8).symm.trans K
                      refine jx_next (pc := 104) (pc' := 105) rfl rfl ?_
                      obtain rfl := Option.some.inj K
                      exact jx_iret (pc := 105) rfl HQ
                    · replace K := (if_neg hc8).symm.trans K
                      refine jx_next (pc := 96) (pc' := 97) rfl rfl ?_
                      refine jx_next (pc := 97) (pc' := 98) rfl rfl ?_
                      refine jx_callv (pc := 98) (o := 110) (rest := []) rfl ⟨by decide, by decide⟩ rfl jko_110 (Nat.le_of_ble_eq_true rfl) ?_
                      obtain ⟨z9, hz_z9, K⟩ := Option.bind_eq_some_iff.mp K
                      refine kM_weeksOf  (by omega) hz_z9 ?_
                      refine jx_next (pc := 101) (pc' := 105) rfl rfl ?_
                      obtain rfl := Option.some.inj K
                      exact jx_iret (pc := 105) rfl HQ
                  · replace K := (if_neg hc10).symm.trans K
                    refine jx_sw0 ?_
                    refine jx_next (pc := 106) (pc' := 107) rfl rfl ?_
                    obtain rfl := Option.some.inj K
                    exact jx_iret (pc := 107) rfl HQ
noncomputable def fM_farOf_l17_j49 (v2 : Int32) (v3 : Int32) (v4 : Int32) (h : jH) : Option ((Int32 × Int32) ⊕ (Int32)) :=
  some (.inl (v2, v4 + 1))
theorem kM_farOf_l17_j49 {X : jX} {dd : Nat} {p d : Nat} {q : Nat → Nat} {Q : Option Value → jS → Prop} {v2 : Int32} {v3 : Int32} {v4 : Int32} {h : jH}  (hd : 1 ≤ (dd + 1)) {z : (Int32 × Int32) ⊕ (Int32)} (K : fM_farOf_l17_j49 v2 v3 v4 h = some z) (HL : ∀ s : Int32 × Int32, z = .inl s → jEx X (dd + 1) jc_254 17 [some (.ref 110), none, some (.int s.1), some (.int v3), some (.int s.2)] [] (176, jRf p d q, h) Q) (HE0 : ∀ x : Int32, z = .inr x → jEx X (dd + 1) jc_254 55 [some (.ref 110), none, some (.int x), some (.int v3), none] [] (176, jRf p d q, h) Q) :
    jEx X (dd + 1) jc_254 49 [some (.ref 110), none, some (.int v2), some (.int v3), some (.int v4)] [] (176, jRf p d q, h) Q := by
  unfold fM_farOf_l17_j49 at K
  refine jx_inc (pc := 49) (x := v4) (p2 := [some (.ref 110), none, some (.int v2), some (.int v3), some (.int (v4 + 1))]) rfl rfl (jlt rfl) rfl ?_
  refine jx_next (pc := 52) (pc' := 17) rfl rfl ?_
  obtain rfl := Option.some.inj K
  refine jx_le (pl' := [some (.ref 110), none, some (.int v2), some (.int v3), some (.int (v4 + 1))]) (jle_v (jle_n (jle_v (jle_v (jle_v jle_nil))))) ?_
  exact HL (v2, v4 + 1) rfl
noncomputable def fM_farOf_l17_b (v3 : Int32) (v2 : Int32) (v4 : Int32) (h : jH) : Option ((Int32 × Int32) ⊕ (Int32)) :=
  (Option.bind (fM_guestMany h) (fun (z3 : Int32) =>
  (if v4 < z3 then
  (if ((v2 >>> (v4 &&& 31)) &&& 1) = 1 then
  (if jin (8 + v4) 16 then
  fM_farOf_l17_j49  (v2 ||| (h.1 142 (8 + v4).toNatClampNeg)) v3 v4 h
  else none)
  else
  fM_farOf_l17_j49  v2 v3 v4 h)
  else
  some (.inr v2))))
noncomputable def fM_farOf_l17 (v3 : Int32) (h : jH) : (Int32 × Int32) → Option ((Int32 × Int32) ⊕ (Int32)) :=
  fun (s : Int32 × Int32) => fM_farOf_l17_b v3 s.1 s.2 h
theorem kM_farOf_l17_b {X : jX} {dd : Nat} {p d : Nat} {q : Nat → Nat} {Q : Option Value → jS → Prop} {v3 : Int32} {v2 : Int32} {v4 : Int32} {h : jH}  (hd : 1 ≤ (dd + 1)) {z : (Int32 × Int32) ⊕ (Int32)} (K : fM_farOf_l17_b v3 v2 v4 h = some z) (HL : ∀ s : Int32 × Int32, z = .inl s → jEx X (dd + 1) jc_254 17 [some (.ref 110), none, some (.int s.1), some (.int v3), some (.int s.2)] [] (176, jRf p d q, h) Q) (HE0 : ∀ x : Int32, z = .inr x → jEx X (dd + 1) jc_254 55 [some (.ref 110), none, some (.int x), some (.int v3), none] [] (176, jRf p d q, h) Q) :
    jEx X (dd + 1) jc_254 17 [some (.ref 110), none, some (.int v2), some (.int v3), some (.int v4)] [] (176, jRf p d q, h) Q := by
  unfold fM_farOf_l17_b at K
  refine jx_next (pc := 17) (pc' := 19) rfl rfl ?_
  refine jx_next (pc := 19) (pc' := 20) rfl rfl ?_
  refine jx_callv (pc := 20) (o := 110) (rest := [.int v4]) rfl ⟨by decide, by decide⟩ rfl jko_110 (Nat.le_of_ble_eq_true rfl) ?_
  obtain ⟨z3, hz_z3, K⟩ := Option.bind_eq_some_iff.mp K
  refine kM_guestMany  (by omega) hz_z3 ?_
  refine jx_icge (pc := 23) rfl (fun hc4 => ?_) (fun hc4 => ?_)
  · replace K := (if_pos hc4).symm.trans K
    refine jx_next (pc := 26) (pc' := 27) rfl rfl ?_
    refine jx_next (pc := 27) (pc' := 29) rfl rfl ?_
    refine jx_next (pc := 29) (pc' := 30) rfl rfl ?_
    refine jx_next (pc := 30) (pc' := 31) rfl rfl ?_
    refine jx_next (pc := 31) (pc' := 32) rfl rfl ?_
    refine jx_next (pc := 32) (pc' := 33) rfl rfl ?_
    refine jx_icne (pc := 33) rfl (fun hc5 => ?_) (fun hc5 => ?_)
    · replace K := (if_pos hc5).symm.trans K
      refine jx_next (pc := 36) (pc' := 37) rfl rfl ?_
      refine jx_next (pc := 37) (pc' := 38) rfl rfl ?_
      refine jx_getr2 (pc := 38) rfl jko_110 jr_12_40 ?_
      refine jx_next (pc := 41) (pc' := 43) rfl rfl ?_
      refine jx_next (pc := 43) (pc' := 45) rfl rfl ?_
      refine jx_next (pc := 45) (pc' := 46) rfl rfl ?_
      obtain ⟨hg6, K⟩ := jguard K
      refine jx_iald2 (pc := 46) rfl jko_142 jno_142 hg6 ?_
      refine jx_next (pc := 47) (pc' := 48) rfl rfl ?_
      refine jx_stin (pc := 48) (p2 := [some (.ref 110), none, some (.int (v2 ||| (h.1 142 (8 + v4).toNatClampNeg))), some (.int v3), some (.int v4)]) rfl (jlt rfl) rfl ?_
      refine jx_le (pl' := [some (.ref 110), none, some (.int (v2 ||| (h.1 142 (8 + v4).toNatClampNeg))), some (.int v3), some (.int v4)]) (jle_v (jle_n (jle_v (jle_v (jle_v jle_nil))))) ?_
      exact kM_farOf_l17_j49  hd K HL HE0
    · replace K := (if_neg hc5).symm.trans K
      refine jx_le (pl' := [some (.ref 110), none, some (.int v2), some (.int v3), some (.int v4)]) (jle_v (jle_n (jle_v (jle_v (jle_v jle_nil))))) ?_
      exact kM_farOf_l17_j49  hd K HL HE0
  · replace K := (if_neg hc4).symm.trans K
    obtain rfl := Option.some.inj K
    refine jx_le (pl' := [some (.ref 110), none, some (.int v2), some (.int v3), none]) (jle_v (jle_n (jle_v (jle_v (jle_n jle_nil))))) ?_
    exact HE0 _ rfl
theorem kM_farOf_l17_w {X : jX} {dd : Nat} {p d : Nat} {q : Nat → Nat} {Q : Option Value → jS → Prop} {v3 : Int32} {h : jH}  (hd : 1 ≤ (dd + 1)) {s : Int32 × Int32} {x : Int32} (K : jlim (fM_farOf_l17 v3 h) s = some x) (HE : jEx X (dd + 1) jc_254 55 [some (.ref 110), none, some (.int x), some (.int v3), none] [] (176, jRf p d q, h) Q) :
    jEx X (dd + 1) jc_254 17 [some (.ref 110), none, some (.int s.1), some (.int v3), some (.int s.2)] [] (176, jRf p d q, h) Q := by
  refine jlim_ok (G := fun s : Int32 × Int32 => jEx X (dd + 1) jc_254 17 [some (.ref 110), none, some (.int s.1), some (.int v3), some (.int s.2)] [] (176, jRf p d q, h) Q) (GX := fun x : Int32 => jEx X (dd + 1) jc_254 55 [some (.ref 110), none, some (.int x), some (.int v3), none] [] (176, jRf p d q, h) Q) (fun s z hz HL HE => ?_) K HE
  exact kM_farOf_l17_b  hd hz HL HE
noncomputable def fM_farOf_l6_b (v2 : Int32) (v3 : Int32) (h : jH) : Option ((Int32 × Int32) ⊕ (Int32)) :=
  (Option.bind (fM_guestMany h) (fun (z1 : Int32) =>
  (if v3 < z1 then
  (Option.bind (jlim (fM_farOf_l17  v3 h) (v2, 0)) (fun (x7 : Int32) =>
  some (.inl (x7, v3 + 1))))
  else
  some (.inr v2))))
noncomputable def fM_farOf_l6  (h : jH) : (Int32 × Int32) → Option ((Int32 × Int32) ⊕ (Int32)) :=
  fun (s : Int32 × Int32) => fM_farOf_l6_b s.1 s.2 h
theorem kM_farOf_l6_b {X : jX} {dd : Nat} {p d : Nat} {q : Nat → Nat} {Q : Option Value → jS → Prop} {v2 : Int32} {v3 : Int32} {h : jH}  (hd : 1 ≤ (dd + 1)) {z : (Int32 × Int32) ⊕ (Int32)} (K : fM_farOf_l6_b v2 v3 h = some z) (HL : ∀ s : Int32 × Int32, z = .inl s → jEx X (dd + 1) jc_254 6 [some (.ref 110), none, some (.int s.1), some (.int s.2), none] [] (176, jRf p d q, h) Q) (HE0 : ∀ x : Int32, z = .inr x → jEx X (dd + 1) jc_254 61 [none, none, some (.int x), none, none] [] (176, jRf p d q, h) Q) :
    jEx X (dd + 1) jc_254 6 [some (.ref 110), none, some (.int v2), some (.int v3), none] [] (176, jRf p d q, h) Q := by
  unfold fM_farOf_l6_b at K
  refine jx_next (pc := 6) (pc' := 7) rfl rfl ?_
  refine jx_next (pc := 7) (pc' := 8) rfl rfl ?_
  refine jx_callv (pc := 8) (o := 110) (rest := [.int v3]) rfl ⟨by decide, by decide⟩ rfl jko_110 (Nat.le_of_ble_eq_true rfl) ?_
  obtain ⟨z1, hz_z1, K⟩ := Option.bind_eq_some_iff.mp K
  refine kM_guestMany  (by omega) hz_z1 ?_
  refine jx_icge (pc := 11) rfl (fun hc2 => ?_) (fun hc2 => ?_)
  · replace K := (if_pos hc2).symm.trans K
    refine jx_next (pc := 14) (pc' := 15) rfl rfl ?_
    refine jx_sti (pc := 15) (p2 := [some (.ref 110), none, some (.int v2), some (.int v3), some (.int 0)]) rfl (jlt rfl) rfl ?_
    refine jx_le (pl' := [some (.ref 110), none, some (.int v2), some (.int v3), some (.int 0)]) (jle_v (jle_n (jle_v (jle_v (jle_v jle_nil))))) ?_
    obtain ⟨x7, hz_x7, K⟩ := Option.bind_eq_some_iff.mp K
    refine kM_farOf_l17_w  hd hz_x7 ?_
    refine jx_inc (pc := 55) (x := v3) (p2 := [some (.ref 110), none, some (.int x7), some (.int (v3 + 1)), none]) rfl rfl (jlt rfl) rfl ?_
    refine jx_next (pc := 58) (pc' := 6) rfl rfl ?_
    obtain rfl := Option.some.inj K
    refine jx_le (pl' := [some (.ref 110), none, some (.int x7), some (.int (v3 + 1)), none]) (jle_v (jle_n (jle_v (jle_v (jle_n jle_nil))))) ?_
    exact HL (x7, v3 + 1) rfl
  · replace K := (if_neg hc2).symm.trans K
    obtain rfl := Option.some.inj K
    refine jx_le (pl' := [none, none, some (.int v2), none, none]) (jle_n (jle_n (jle_v (jle_n (jle_n jle_nil))))) ?_
    exact HE0 _ rfl
theorem kM_farOf_l6_w {X : jX} {dd : Nat} {p d : Nat} {q : Nat → Nat} {Q : Option Value → jS → Prop}  {h : jH}  (hd : 1 ≤ (dd + 1)) {s : Int32 × Int32} {x : Int32} (K : jlim (fM_farOf_l6  h) s = some x) (HE : jEx X (dd + 1) jc_254 61 [none, none, some (.int x), none, none] [] (176, jRf p d q, h) Q) :
    jEx X (dd + 1) jc_254 6 [some (.ref 110), none, some (.int s.1), some (.int s.2), none] [] (176, jRf p d q, h) Q := by
  refine jlim_ok (G := fun s : Int32 × Int32 => jEx X (dd + 1) jc_254 6 [some (.ref 110), none, some (.int s.1), some (.int s.2), none] [] (176, jRf p d q, h) Q) (GX := fun x : Int32 => jEx X (dd + 1) jc_254 61 [none, none, some (.int x), none, none] [] (176, jRf p d q, h) Q) (fun s z hz HL HE => ?_) K HE
  exact kM_farOf_l6_b  hd hz HL HE
/-- AndGuestModel.farOf(I)I -/
noncomputable def fM_farOf (v1 : Int32) (h : jH) : Option Int32 :=
  (Option.bind (jlim (fM_farOf_l6  h) (1 <<< (v1 &&& 31), 0)) (fun (x8 : Int32) =>
  some (x8 : Int32)))
theorem kM_farOf {X : jX} {dd : Nat} {p d : Nat} {q : Nat → Nat} {Q : Option Value → jS → Prop} {v1 : Int32} {h : jH}  (hd : 1 ≤ dd) {z : Int32} (K : fM_farOf v1 h = some z) (HQ : Q (some (.int z)) (176, jRf p d q, h)) :
    jCa X dd 254 [.ref 110, .int v1] (176, jRf p d q, h) Q := by
  obtain ⟨dd, rfl⟩ : ∃ d9, dd = d9 + 1 := ⟨dd - 1, by omega⟩
  unfold fM_farOf at K
  refine jCa_of (es := jc_254) (pl := [some (.ref 110), some (.int v1), none, none, none]) (M := jm_254) rfl rfl rfl rfl ?_
  refine jx_next (pc := 0) (pc' := 1) rfl rfl ?_
  refine jx_next (pc := 1) (pc' := 2) rfl rfl ?_
  refine jx_next (pc := 2) (pc' := 3) rfl rfl ?_
  refine jx_stin (pc := 3) (p2 := [some (.ref 110), some (.int v1), some (.int (1 <<< (v1 &&& 31))), none, none]) rfl (jlt rfl) rfl ?_
  refine jx_next (pc := 4) (pc' := 5) rfl rfl ?_
  refine jx_stin (pc := 5) (p2 := [some (.ref 110), some (.int v1), some (.int (1 <<< (v1 &&& 31))), some (.int 0), none]) rfl (jlt rfl) rfl ?_
  refine jx_le (pl' := [some (.ref 110), none, some (.int (1 <<< (v1 &&& 31))), some (.int 0), none]) (jle_v (jle_n (jle_v (jle_v (jle_n jle_nil))))) ?_
  obtain ⟨x8, hz_x8, K⟩ := Option.bind_eq_some_iff.mp K
  refine kM_farOf_l6_w  hd hz_x8 ?_
  refine jx_next (pc := 61) (pc' := 62) rfl rfl ?_
  obtain rfl := Option.some.inj K
  exact jx_iret (pc := 62) rfl HQ
/-- AndGuestModel.far(I)I -/
noncomputable def fM_far (v1 : Int32) (h : jH) : Option Int32 :=
  (Option.bind (fM_isGuest v1 h) (fun (z1 : Int32) =>
  (if z1 = 0 then
  some ((-1) : Int32)
  else
  (Option.bind (fM_farOf v1 h) (fun (z3 : Int32) =>
  some (z3 : Int32))))))
theorem kM_far {X : jX} {dd : Nat} {p d : Nat} {q : Nat → Nat} {Q : Option Value → jS → Prop} {v1 : Int32} {h : jH}  (hd : 2 ≤ dd) {z : Int32} (K : fM_far v1 h = some z) (HQ : Q (some (.int z)) (176, jRf p d q, h)) :
    jCa X dd 253 [.ref 110, .int v1] (176, jRf p d q, h) Q := by
  obtain ⟨dd, rfl⟩ : ∃ d9, dd = d9 + 1 := ⟨dd - 1, by omega⟩
  unfold fM_far at K
  refine jCa_of (es := jc_253) (pl := [some (.ref 110), some (.int v1)]) (M := jm_253) rfl rfl rfl rfl ?_
  refine jx_next (pc := 0) (pc' := 1) rfl rfl ?_
  refine jx_next (pc := 1) (pc' := 2) rfl rfl ?_
  refine jx_callv (pc := 2) (o := 110) (rest := []) rfl ⟨by decide, by decide⟩ rfl jko_110 (Nat.le_of_ble_eq_true rfl) ?_
  obtain ⟨z1, hz_z1, K⟩ := Option.bind_eq_some_iff.mp K
  refine kM_isGuest  (by omega) hz_z1 ?_
  refine jx_ifeq (pc := 5) rfl (fun hc2 => ?_) (fun hc2 => ?_)
  · replace K := (if_pos hc2).symm.trans K
    refine jx_next (pc := 16) (pc' := 17) rfl rfl ?_
    obtain rfl := Option.some.inj K
    exact jx_iret (pc := 17) rfl HQ
  · replace K := (if_neg hc2).symm.trans K
    refine jx_next (pc := 8) (pc' := 9) rfl rfl ?_
    refine jx_next (pc := 9) (pc' := 10) rfl rfl ?_
    refine jx_callv (pc := 10) (o := 110) (rest := []) rfl ⟨by decide, by decide⟩ rfl jko_110 (Nat.le_of_ble_eq_true rfl) ?_
    obtain ⟨z3, hz_z3, K⟩ := Option.bind_eq_some_iff.mp K
    refine kM_farOf  (by omega) hz_z3 ?_
    refine jx_next (pc := 13) (pc' := 17) rfl rfl ?_
    obtain rfl := Option.some.inj K
    exact jx_iret (pc := 17) rfl HQ
noncomputable def fM_laysHeads_l2_b (v1 : Int32) (h : jH) : Option ((Int32 × jH) ⊕ (jH)) :=
  (if 32 < v1 then
  some (.inr h)
  else
  (if jin v1 33 then
  some (.inl (v1 + 1, jhL h 150 v1.toNatClampNeg 0))
  else none))
noncomputable def fM_laysHeads_l2  : (Int32 × jH) → Option ((Int32 × jH) ⊕ (jH)) :=
  fun (s : Int32 × jH) => fM_laysHeads_l2_b s.1 s.2
theorem kM_laysHeads_l2_b {X : jX} {dd : Nat} {p d : Nat} {q : Nat → Nat} {Q : Option Value → jS → Prop} {v1 : Int32} {h : jH}  (hd : 2 ≤ (dd + 1)) {z : (Int32 × jH) ⊕ (jH)} (K : fM_laysHeads_l2_b v1 h = some z) (HL : ∀ s : Int32 × jH, z = .inl s → jEx X (dd + 1) jc_256 2 [some (.ref 110), some (.int s.1), none, none, none] [] (176, jRf p d q, s.2) Q) (HE0 : ∀ x : jH, z = .inr x → jEx X (dd + 1) jc_256 21 [some (.ref 110), none, none, none, none] [] (176, jRf p d q, x) Q) :
    jEx X (dd + 1) jc_256 2 [some (.ref 110), some (.int v1), none, none, none] [] (176, jRf p d q, h) Q := by
  unfold fM_laysHeads_l2_b at K
  refine jx_next (pc := 2) (pc' := 3) rfl rfl ?_
  refine jx_next (pc := 3) (pc' := 5) rfl rfl ?_
  refine jx_icgt (pc := 5) rfl (fun hc1 => ?_) (fun hc1 => ?_)
  · replace K := (if_pos hc1).symm.trans K
    obtain rfl := Option.some.inj K
    refine jx_le (pl' := [some (.ref 110), none, none, none, none]) (jle_v (jle_n (jle_n (jle_n (jle_n jle_nil))))) ?_
    exact HE0 _ rfl
  · replace K := (if_neg hc1).symm.trans K
    refine jx_next (pc := 8) (pc' := 9) rfl rfl ?_
    refine jx_getr2 (pc := 9) rfl jko_110 jr_12_52 ?_
    refine jx_next (pc := 12) (pc' := 13) rfl rfl ?_
    refine jx_next (pc := 13) (pc' := 14) rfl rfl ?_
    obtain ⟨hg2, K⟩ := jguard K
    refine jx_last2 (pc := 14) rfl jko_150 jno_150 hg2 ?_
    refine jx_inc (pc := 15) (x := v1) (p2 := [some (.ref 110), some (.int (v1 + 1)), none, none, none]) rfl rfl (jlt rfl) rfl ?_
    refine jx_next (pc := 18) (pc' := 2) rfl rfl ?_
    obtain rfl := Option.some.inj K
    refine jx_le (pl' := [some (.ref 110), some (.int (v1 + 1)), none, none, none]) (jle_v (jle_v (jle_n (jle_n (jle_n jle_nil))))) ?_
    exact HL (v1 + 1, jhL h 150 v1.toNatClampNeg 0) rfl
theorem kM_laysHeads_l2_w {X : jX} {dd : Nat} {p d : Nat} {q : Nat → Nat} {Q : Option Value → jS → Prop}   (hd : 2 ≤ (dd + 1)) {s : Int32 × jH} {x : jH} (K : jlim (fM_laysHeads_l2 ) s = some x) (HE : jEx X (dd + 1) jc_256 21 [some (.ref 110), none, none, none, none] [] (176, jRf p d q, x) Q) :
    jEx X (dd + 1) jc_256 2 [some (.ref 110), some (.int s.1), none, none, none] [] (176, jRf p d q, s.2) Q := by
  refine jlim_ok (G := fun s : Int32 × jH => jEx X (dd + 1) jc_256 2 [some (.ref 110), some (.int s.1), none, none, none] [] (176, jRf p d q, s.2) Q) (GX := fun x : jH => jEx X (dd + 1) jc_256 21 [some (.ref 110), none, none, none, none] [] (176, jRf p d q, x) Q) (fun s z hz HL HE => ?_) K HE
  exact kM_laysHeads_l2_b  hd hz HL HE
noncomputable def fM_laysHeads_l59_j105 (v1 : Int32) (v2 : Int32) (v3 : Int32) (v4 : Int32) (s0 : Nat) (s1 : Int32) (s2 : Int64) (s3 : Int64) (h : jH) : Option ((Int32 × jH) ⊕ (jH)) :=
  (if jin s1 (jsh s0).2 then
  some (.inl (v4 + (-1), jhL h s0 s1.toNatClampNeg (s2 + s3)))
  else none)
theorem kM_laysHeads_l59_j105 {X : jX} {dd : Nat} {p d : Nat} {q : Nat → Nat} {Q : Option Value → jS → Prop} {v1 : Int32} {v2 : Int32} {v3 : Int32} {v4 : Int32} {s0 : Nat} {s1 : Int32} {s2 : Int64} {s3 : Int64} {h : jH} (hs0 : jcl 176 s0 = 21) (hd : 2 ≤ (dd + 1)) {z : (Int32 × jH) ⊕ (jH)} (K : fM_laysHeads_l59_j105 v1 v2 v3 v4 s0 s1 s2 s3 h = some z) (HL : ∀ s : Int32 × jH, z = .inl s → jEx X (dd + 1) jc_256 59 [some (.ref 110), some (.int v1), some (.int v2), some (.int v3), some (.int s.1)] [] (176, jRf p d q, s.2) Q) (HE0 : ∀ x : jH, z = .inr x → jEx X (dd + 1) jc_256 113 [some (.ref 110), some (.int v1), none, none, none] [] (176, jRf p d q, x) Q) :
    jEx X (dd + 1) jc_256 105 [some (.ref 110), some (.int v1), some (.int v2), some (.int v3), some (.int v4)] [.long s3, .long s2, .int s1, .ref s0] (176, jRf p d q, h) Q := by
  unfold fM_laysHeads_l59_j105 at K
  refine jx_next (pc := 105) (pc' := 106) rfl rfl ?_
  obtain ⟨hg12, K⟩ := jguard K
  refine jx_last2 (pc := 106) rfl hs0 rfl hg12 ?_
  refine jx_inc (pc := 107) (x := v4) (p2 := [some (.ref 110), some (.int v1), some (.int v2), some (.int v3), some (.int (v4 + (-1)))]) rfl rfl (jlt rfl) rfl ?_
  refine jx_next (pc := 110) (pc' := 59) rfl rfl ?_
  obtain rfl := Option.some.inj K
  refine jx_le (pl' := [some (.ref 110), some (.int v1), some (.int v2), some (.int v3), some (.int (v4 + (-1)))]) (jle_v (jle_v (jle_v (jle_v (jle_v jle_nil))))) ?_
  exact HL (v4 + (-1), jhL h s0 s1.toNatClampNeg (s2 + s3)) rfl
noncomputable def fM_laysHeads_l59_b (v1 : Int32) (v2 : Int32) (v3 : Int32) (v4 : Int32) (h : jH) : Option ((Int32 × jH) ⊕ (jH)) :=
  (if v4 < 0 then
  some (.inr h)
  else
  (if jin v4 33 then
  (if v4 < v3 then
  fM_laysHeads_l59_j105  v1 v2 v3 v4 150 v4 ((h.2 150 v4.toNatClampNeg) * ((10 - v2).toInt64)) 0 h
  else
  (if jin (v4 - v3) 33 then
  fM_laysHeads_l59_j105  v1 v2 v3 v4 150 v4 ((h.2 150 v4.toNatClampNeg) * ((10 - v2).toInt64)) ((h.2 150 (v4 - v3).toNatClampNeg) * v2.toInt64) h
  else none))
  else none))
noncomputable def fM_laysHeads_l59 (v1 : Int32) (v2 : Int32) (v3 : Int32) : (Int32 × jH) → Option ((Int32 × jH) ⊕ (jH)) :=
  fun (s : Int32 × jH) => fM_laysHeads_l59_b v1 v2 v3 s.1 s.2
theorem kM_laysHeads_l59_b {X : jX} {dd : Nat} {p d : Nat} {q : Nat → Nat} {Q : Option Value → jS → Prop} {v1 : Int32} {v2 : Int32} {v3 : Int32} {v4 : Int32} {h : jH}  (hd : 2 ≤ (dd + 1)) {z : (Int32 × jH) ⊕ (jH)} (K : fM_laysHeads_l59_b v1 v2 v3 v4 h = some z) (HL : ∀ s : Int32 × jH, z = .inl s → jEx X (dd + 1) jc_256 59 [some (.ref 110), some (.int v1), some (.int v2), some (.int v3), some (.int s.1)] [] (176, jRf p d q, s.2) Q) (HE0 : ∀ x : jH, z = .inr x → jEx X (dd + 1) jc_256 113 [some (.ref 110), some (.int v1), none, none, none] [] (176, jRf p d q, x) Q) :
    jEx X (dd + 1) jc_256 59 [some (.ref 110), some (.int v1), some (.int v2), some (.int v3), some (.int v4)] [] (176, jRf p d q, h) Q := by
  unfold fM_laysHeads_l59_b at K
  refine jx_next (pc := 59) (pc' := 61) rfl rfl ?_
  refine jx_iflt (pc := 61) rfl (fun hc9 => ?_) (fun hc9 => ?_)
  · replace K := (if_pos hc9).symm.trans K
    obtain rfl := Option.some.inj K
    refine jx_le (pl' := [some (.ref 110), some (.int v1), none, none, none]) (jle_v (jle_v (jle_n (jle_n (jle_n jle_nil))))) ?_
    exact HE0 _ rfl
  · replace K := (if_neg hc9).symm.trans K
    refine jx_next (pc := 64) (pc' := 65) rfl rfl ?_
    refine jx_getr2 (pc := 65) rfl jko_110 jr_12_52 ?_
    refine jx_next (pc := 68) (pc' := 70) rfl rfl ?_
    refine jx_next (pc := 70) (pc' := 71) rfl rfl ?_
    refine jx_getr2 (pc := 71) rfl jko_110 jr_12_52 ?_
    refine jx_next (pc := 74) (pc' := 76) rfl rfl ?_
    obtain ⟨hg10, K⟩ := jguard K
    refine jx_lald2 (pc := 76) rfl jko_150 jno_150 hg10 ?_
    refine jx_next (pc := 77) (pc' := 79) rfl rfl ?_
    refine jx_next (pc := 79) (pc' := 80) rfl rfl ?_
    refine jx_next (pc := 80) (pc' := 81) rfl rfl ?_
    refine jx_next (pc := 81) (pc' := 82) rfl rfl ?_
    refine jx_next (pc := 82) (pc' := 83) rfl rfl ?_
    refine jx_next (pc := 83) (pc' := 85) rfl rfl ?_
    refine jx_next (pc := 85) (pc' := 86) rfl rfl ?_
    refine jx_iclt (pc := 86) rfl (fun hc11 => ?_) (fun hc11 => ?_)
    · replace K := (if_pos hc11).symm.trans K
      refine jx_next (pc := 104) (pc' := 105) rfl rfl ?_
      refine jx_le (pl' := [some (.ref 110), some (.int v1), some (.int v2), some (.int v3), some (.int v4)]) (jle_v (jle_v (jle_v (jle_v (jle_v jle_nil))))) ?_
      exact kM_laysHeads_l59_j105 jko_150 hd K HL HE0
    · replace K := (if_neg hc11).symm.trans K
      refine jx_next (pc := 89) (pc' := 90) rfl rfl ?_
      refine jx_getr2 (pc := 90) rfl jko_110 jr_12_52 ?_
      refine jx_next (pc := 93) (pc' := 95) rfl rfl ?_
      refine jx_next (pc := 95) (pc' := 96) rfl rfl ?_
      refine jx_next (pc := 96) (pc' := 97) rfl rfl ?_
      obtain ⟨hg13, K⟩ := jguard K
      refine jx_lald2 (pc := 97) rfl jko_150 jno_150 hg13 ?_
      refine jx_next (pc := 98) (pc' := 99) rfl rfl ?_
      refine jx_next (pc := 99) (pc' := 100) rfl rfl ?_
      refine jx_next (pc := 100) (pc' := 101) rfl rfl ?_
      refine jx_next (pc := 101) (pc' := 105) rfl rfl ?_
      refine jx_le (pl' := [some (.ref 110), some (.int v1), some (.int v2), some (.int v3), some (.int v4)]) (jle_v (jle_v (jle_v (jle_v (jle_v jle_nil))))) ?_
      exact kM_laysHeads_l59_j105 jko_150 hd K HL HE0
theorem kM_laysHeads_l59_w {X : jX} {dd : Nat} {p d : Nat} {q : Nat → Nat} {Q : Option Value → jS → Prop} {v1 : Int32} {v2 : Int32} {v3 : Int32}  (hd : 2 ≤ (dd + 1)) {s : Int32 × jH} {x : jH} (K : jlim (fM_laysHeads_l59 v1 v2 v3) s = some x) (HE : jEx X (dd + 1) jc_256 113 [some (.ref 110), some (.int v1), none, none, none] [] (176, jRf p d q, x) Q) :
    jEx X (dd + 1) jc_256 59 [some (.ref 110), some (.int v1), some (.int v2), some (.int v3), some (.int s.1)] [] (176, jRf p d q, s.2) Q := by
  refine jlim_ok (G := fun s : Int32 × jH => jEx X (dd + 1) jc_256 59 [some (.ref 110), some (.int v1), some (.int v2), some (.int v3), some (.int s.1)] [] (176, jRf p d q, s.2) Q) (GX := fun x : jH => jEx X (dd + 1) jc_256 113 [some (.ref 110), some (.int v1), none, none, none] [] (176, jRf p d q, x) Q) (fun s z hz HL HE => ?_) K HE
  exact kM_laysHeads_l59_b  hd hz HL HE
noncomputable def fM_laysHeads_l35_b (v1 : Int32) (h : jH) : Option ((Int32 × jH) ⊕ (jH)) :=
  (Option.bind (fM_guestMany h) (fun (z5 : Int32) =>
  (if v1 < z5 then
  (Option.bind (fM_tensOf v1 h) (fun (z7 : Int32) =>
  (Option.bind (fM_sizeOf v1 h) (fun (z8 : Int32) =>
  (Option.bind (jlim (fM_laysHeads_l59  v1 z7 z8) (32, h)) (fun (x14 : jH) =>
  some (.inl (v1 + 1, jhL x14 110 53 ((x14.2 110 53) * 10)))))))))
  else
  some (.inr h))))
noncomputable def fM_laysHeads_l35  : (Int32 × jH) → Option ((Int32 × jH) ⊕ (jH)) :=
  fun (s : Int32 × jH) => fM_laysHeads_l35_b s.1 s.2
theorem kM_laysHeads_l35_b {X : jX} {dd : Nat} {p d : Nat} {q : Nat → Nat} {Q : Option Value → jS → Prop} {v1 : Int32} {h : jH}  (hd : 2 ≤ (dd + 1)) {z : (Int32 × jH) ⊕ (jH)} (K : fM_laysHeads_l35_b v1 h = some z) (HL : ∀ s : Int32 × jH, z = .inl s → jEx X (dd + 1) jc_256 35 [some (.ref 110), some (.int s.1), none, none, none] [] (176, jRf p d q, s.2) Q) (HE0 : ∀ x : jH, z = .inr x → jEx X (dd + 1) jc_256 131 [none, none, none, none, none] [] (176, jRf p d q, x) Q) :
    jEx X (dd + 1) jc_256 35 [some (.ref 110), some (.int v1), none, none, none] [] (176, jRf p d q, h) Q := by
  unfold fM_laysHeads_l35_b at K
  refine jx_next (pc := 35) (pc' := 36) rfl rfl ?_
  refine jx_next (pc := 36) (pc' := 37) rfl rfl ?_
  refine jx_callv (pc := 37) (o := 110) (rest := [.int v1]) rfl ⟨by decide, by decide⟩ rfl jko_110 (Nat.le_of_ble_eq_true rfl) ?_
  obtain ⟨z5, hz_z5, K⟩ := Option.bind_eq_some_iff.mp K
  refine kM_guestMany  (by omega) hz_z5 ?_
  refine jx_icge (pc := 40) rfl (fun hc6 => ?_) (fun hc6 => ?_)
  · replace K := (if_pos hc6).symm.trans K
    refine jx_next (pc := 43) (pc' := 44) rfl rfl ?_
    refine jx_next (pc := 44) (pc' := 45) rfl rfl ?_
    refine jx_callv (pc := 45) (o := 110) (rest := []) rfl ⟨by decide, by decide⟩ rfl jko_110 (Nat.le_of_ble_eq_true rfl) ?_
    obtain ⟨z7, hz_z7, K⟩ := Option.bind_eq_some_iff.mp K
    refine kM_tensOf  (by omega) hz_z7 ?_
    refine jx_stin (pc := 48) (p2 := [some (.ref 110), some (.int v1), some (.int z7), none, none]) rfl (jlt rfl) rfl ?_
    refine jx_next (pc := 49) (pc' := 50) rfl rfl ?_
    refine jx_next (pc := 50) (pc' := 51) rfl rfl ?_
    refine jx_callv (pc := 51) (o := 110) (rest := []) rfl ⟨by decide, by decide⟩ rfl jko_110 (Nat.le_of_ble_eq_true rfl) ?_
    obtain ⟨z8, hz_z8, K⟩ := Option.bind_eq_some_iff.mp K
    refine kM_sizeOf  (by omega) hz_z8 ?_
    refine jx_stin (pc := 54) (p2 := [some (.ref 110), some (.int v1), some (.int z7), some (.int z8), none]) rfl (jlt rfl) rfl ?_
    refine jx_next (pc := 55) (pc' := 57) rfl rfl ?_
    refine jx_sti (pc := 57) (p2 := [some (.ref 110), some (.int v1), some (.int z7), some (.int z8), some (.int 32)]) rfl (jlt rfl) rfl ?_
    refine jx_le (pl' := [some (.ref 110), some (.int v1), some (.int z7), some (.int z8), some (.int 32)]) (jle_v (jle_v (jle_v (jle_v (jle_v jle_nil))))) ?_
    obtain ⟨x14, hz_x14, K⟩ := Option.bind_eq_some_iff.mp K
    refine kM_laysHeads_l59_w  hd hz_x14 ?_
    refine jx_next (pc := 113) (pc' := 114) rfl rfl ?_
    refine jx_next (pc := 114) (pc' := 115) rfl rfl ?_
    refine jx_getl (pc := 115) rfl jko_110 ?_
    refine jx_next (pc := 118) (pc' := 121) rfl rfl ?_
    refine jx_next (pc := 121) (pc' := 122) rfl rfl ?_
    refine jx_putl (pc := 122) rfl jko_110 ?_
    refine jx_inc (pc := 125) (x := v1) (p2 := [some (.ref 110), some (.int (v1 + 1)), none, none, none]) rfl rfl (jlt rfl) rfl ?_
    refine jx_next (pc := 128) (pc' := 35) rfl rfl ?_
    obtain rfl := Option.some.inj K
    refine jx_le (pl' := [some (.ref 110), some (.int (v1 + 1)), none, none, none]) (jle_v (jle_v (jle_n (jle_n (jle_n jle_nil))))) ?_
    exact HL (v1 + 1, jhL x14 110 53 ((x14.2 110 53) * 10)) rfl
  · replace K := (if_neg hc6).symm.trans K
    obtain rfl := Option.some.inj K
    refine jx_le (pl' := [none, none, none, none, none]) (jle_n (jle_n (jle_n (jle_n (jle_n jle_nil))))) ?_
    exact HE0 _ rfl
theorem kM_laysHeads_l35_w {X : jX} {dd : Nat} {p d : Nat} {q : Nat → Nat} {Q : Option Value → jS → Prop}   (hd : 2 ≤ (dd + 1)) {s : Int32 × jH} {x : jH} (K : jlim (fM_laysHeads_l35 ) s = some x) (HE : jEx X (dd + 1) jc_256 131 [none, none, none, none, none] [] (176, jRf p d q, x) Q) :
    jEx X (dd + 1) jc_256 35 [some (.ref 110), some (.int s.1), none, none, none] [] (176, jRf p d q, s.2) Q := by
  refine jlim_ok (G := fun s : Int32 × jH => jEx X (dd + 1) jc_256 35 [some (.ref 110), some (.int s.1), none, none, none] [] (176, jRf p d q, s.2) Q) (GX := fun x : jH => jEx X (dd + 1) jc_256 131 [none, none, none, none, none] [] (176, jRf p d q, x) Q) (fun s z hz HL HE => ?_) K HE
  exact kM_laysHeads_l35_b  hd hz HL HE
/-- AndGuestModel.laysHeads()V -/
noncomputable def fM_laysHeads  (h : jH) : Option jH :=
  (Option.bind (jlim (fM_laysHeads_l2 ) (1, h)) (fun (x3 : jH) =>
  (if jin 0 33 then
  (Option.bind (jlim (fM_laysHeads_l35 ) (0, jhL (jhL x3 150 (0 : Int32).toNatClampNeg 1) 110 53 1)) (fun (x15 : jH) =>
  some x15))
  else none)))
theorem kM_laysHeads {X : jX} {dd : Nat} {p d : Nat} {q : Nat → Nat} {Q : Option Value → jS → Prop}  {h : jH}  (hd : 2 ≤ dd) {z : jH} (K : fM_laysHeads  h = some z) (HQ : Q none (176, jRf p d q, z)) :
    jCa X dd 256 [.ref 110] (176, jRf p d q, h) Q := by
  obtain ⟨dd, rfl⟩ : ∃ d9, dd = d9 + 1 := ⟨dd - 1, by omega⟩
  unfold fM_laysHeads at K
  refine jCa_of (es := jc_256) (pl := [some (.ref 110), none, none, none, none]) (M := jm_256) rfl rfl rfl rfl ?_
  refine jx_next (pc := 0) (pc' := 1) rfl rfl ?_
  refine jx_stin (pc := 1) (p2 := [some (.ref 110), some (.int 1), none, none, none]) rfl (jlt rfl) rfl ?_
  refine jx_le (pl' := [some (.ref 110), some (.int 1), none, none, none]) (jle_v (jle_v (jle_n (jle_n (jle_n jle_nil))))) ?_
  obtain ⟨x3, hz_x3, K⟩ := Option.bind_eq_some_iff.mp K
  refine kM_laysHeads_l2_w  hd hz_x3 ?_
  refine jx_next (pc := 21) (pc' := 22) rfl rfl ?_
  refine jx_getr2 (pc := 22) rfl jko_110 jr_12_52 ?_
  refine jx_next (pc := 25) (pc' := 26) rfl rfl ?_
  refine jx_next (pc := 26) (pc' := 27) rfl rfl ?_
  obtain ⟨hg4, K⟩ := jguard K
  refine jx_last2 (pc := 27) rfl jko_150 jno_150 hg4 ?_
  refine jx_next (pc := 28) (pc' := 29) rfl rfl ?_
  refine jx_next (pc := 29) (pc' := 30) rfl rfl ?_
  refine jx_putl (pc := 30) rfl jko_110 ?_
  refine jx_next (pc := 33) (pc' := 34) rfl rfl ?_
  refine jx_stin (pc := 34) (p2 := [some (.ref 110), some (.int 0), none, none, none]) rfl (jlt rfl) rfl ?_
  refine jx_le (pl' := [some (.ref 110), some (.int 0), none, none, none]) (jle_v (jle_v (jle_n (jle_n (jle_n jle_nil))))) ?_
  obtain ⟨x15, hz_x15, K⟩ := Option.bind_eq_some_iff.mp K
  refine kM_laysHeads_l35_w  hd hz_x15 ?_
  obtain rfl := Option.some.inj K
  exact jx_ret (pc := 131) rfl rfl HQ
/-- AndGuestModel.odds(I)I -/
noncomputable def fM_odds (v1 : Int32) (h : jH) : Option (Int32 × jH) :=
  (if (h.1 110 48) = 0 then
  some ((-1), h)
  else
  (if (fM_isIn v1.toInt64 0 32) = 0 then
  some ((-1), h)
  else
  (Option.bind (fM_laysHeads h) (fun (z4 : jH) =>
  (if jin v1 33 then
  (if ¬ (z4.2 110 53) = 0 then
  some ((((z4.2 150 v1.toNatClampNeg) * 1000000) / (z4.2 110 53)).toInt32, z4)
  else none)
  else none)))))
theorem kM_odds {X : jX} {dd : Nat} {p d : Nat} {q : Nat → Nat} {Q : Option Value → jS → Prop} {v1 : Int32} {h : jH}  (hd : 3 ≤ dd) {z : Int32 × jH} (K : fM_odds v1 h = some z) (HQ : Q (some (.int z.1)) (176, jRf p d q, z.2)) :
    jCa X dd 255 [.ref 110, .int v1] (176, jRf p d q, h) Q := by
  obtain ⟨dd, rfl⟩ : ∃ d9, dd = d9 + 1 := ⟨dd - 1, by omega⟩
  unfold fM_odds at K
  refine jCa_of (es := jc_255) (pl := [some (.ref 110), some (.int v1)]) (M := jm_255) rfl rfl rfl rfl ?_
  refine jx_next (pc := 0) (pc' := 1) rfl rfl ?_
  refine jx_getz (pc := 1) rfl jko_110 ?_
  refine jx_ifeq (pc := 4) rfl (fun hc1 => ?_) (fun hc1 => ?_)
  · replace K := (if_pos hc1).symm.trans K
    refine jx_next (pc := 19) (pc' := 20) rfl rfl ?_
    obtain rfl := Option.some.inj K
    exact jx_iret (pc := 20) rfl HQ
  · replace K := (if_neg hc1).symm.trans K
    refine jx_next (pc := 7) (pc' := 8) rfl rfl ?_
    refine jx_next (pc := 8) (pc' := 9) rfl rfl ?_
    refine jx_next (pc := 9) (pc' := 10) rfl rfl ?_
    refine jx_next (pc := 10) (pc' := 13) rfl rfl ?_
    refine jx_calls (pc := 13) rfl (Nat.le_of_ble_eq_true rfl) (Nat.le_of_ble_eq_true rfl) ?_
    refine kM_isIn  (by omega) rfl ?_
    refine jx_ifne (pc := 16) rfl (fun hc3 => ?_) (fun hc3 => ?_)
    · replace K := (if_pos hc3).symm.trans K
      refine jx_next (pc := 19) (pc' := 20) rfl rfl ?_
      obtain rfl := Option.some.inj K
      exact jx_iret (pc := 20) rfl HQ
    · replace K := (if_neg hc3).symm.trans K
      refine jx_next (pc := 21) (pc' := 22) rfl rfl ?_
      refine jx_callv (pc := 22) (o := 110) (rest := []) rfl ⟨by decide, by decide⟩ rfl jko_110 (Nat.le_of_ble_eq_true rfl) ?_
      obtain ⟨z4, hz_z4, K⟩ := Option.bind_eq_some_iff.mp K
      refine kM_laysHeads  (by omega) hz_z4 ?_
      refine jx_next (pc := 25) (pc' := 26) rfl rfl ?_
      refine jx_getr2 (pc := 26) rfl jko_110 jr_12_52 ?_
      refine jx_next (pc := 29) (pc' := 30) rfl rfl ?_
      obtain ⟨hg5, K⟩ := jguard K
      refine jx_lald2 (pc := 30) rfl jko_150 jno_150 hg5 ?_
      refine jx_next (pc := 31) (pc' := 34) rfl rfl ?_
      refine jx_next (pc := 34) (pc' := 35) rfl rfl ?_
      refine jx_next (pc := 35) (pc' := 36) rfl rfl ?_
      refine jx_getl (pc := 36) rfl jko_110 ?_
      obtain ⟨hg, K⟩ := jguard K
      refine jx_ldiv (pc := 39) rfl hg ?_
      refine jx_next (pc := 40) (pc' := 41) rfl rfl ?_
      obtain rfl := Option.some.inj K
      exact jx_iret (pc := 41) rfl HQ
noncomputable def fM_above_l32_b (v2 : Int64) (v4 : Int32) (h : jH) : Option ((Int64 × Int32) ⊕ (Int64)) :=
  (if 32 < v4 then
  some (.inr v2)
  else
  (if jin v4 33 then
  some (.inl (v2 + (h.2 150 v4.toNatClampNeg), v4 + 1))
  else none))
noncomputable def fM_above_l32  (h : jH) : (Int64 × Int32) → Option ((Int64 × Int32) ⊕ (Int64)) :=
  fun (s : Int64 × Int32) => fM_above_l32_b s.1 s.2 h
theorem kM_above_l32_b {X : jX} {dd : Nat} {p d : Nat} {q : Nat → Nat} {Q : Option Value → jS → Prop} {v2 : Int64} {v4 : Int32} {h : jH}  (hd : 3 ≤ (dd + 1)) {z : (Int64 × Int32) ⊕ (Int64)} (K : fM_above_l32_b v2 v4 h = some z) (HL : ∀ s : Int64 × Int32, z = .inl s → jEx X (dd + 1) jc_257 32 [some (.ref 110), none, some (.long s.1), none, some (.int s.2)] [] (176, jRf p d q, h) Q) (HE0 : ∀ x : Int64, z = .inr x → jEx X (dd + 1) jc_257 55 [some (.ref 110), none, some (.long x), none, none] [] (176, jRf p d q, h) Q) :
    jEx X (dd + 1) jc_257 32 [some (.ref 110), none, some (.long v2), none, some (.int v4)] [] (176, jRf p d q, h) Q := by
  unfold fM_above_l32_b at K
  refine jx_next (pc := 32) (pc' := 34) rfl rfl ?_
  refine jx_next (pc := 34) (pc' := 36) rfl rfl ?_
  refine jx_icgt (pc := 36) rfl (fun hc5 => ?_) (fun hc5 => ?_)
  · replace K := (if_pos hc5).symm.trans K
    obtain rfl := Option.some.inj K
    refine jx_le (pl' := [some (.ref 110), none, some (.long v2), none, none]) (jle_v (jle_n (jle_v (jle_n (jle_n jle_nil))))) ?_
    exact HE0 _ rfl
  · replace K := (if_neg hc5).symm.trans K
    refine jx_next (pc := 39) (pc' := 40) rfl rfl ?_
    refine jx_next (pc := 40) (pc' := 41) rfl rfl ?_
    refine jx_getr2 (pc := 41) rfl jko_110 jr_12_52 ?_
    refine jx_next (pc := 44) (pc' := 46) rfl rfl ?_
    obtain ⟨hg6, K⟩ := jguard K
    refine jx_lald2 (pc := 46) rfl jko_150 jno_150 hg6 ?_
    refine jx_next (pc := 47) (pc' := 48) rfl rfl ?_
    refine jx_stln (pc := 48) (p2 := [some (.ref 110), none, some (.long (v2 + (h.2 150 v4.toNatClampNeg))), none, some (.int v4)]) rfl (jlt rfl) rfl ?_
    refine jx_inc (pc := 49) (x := v4) (p2 := [some (.ref 110), none, some (.long (v2 + (h.2 150 v4.toNatClampNeg))), none, some (.int (v4 + 1))]) rfl rfl (jlt rfl) rfl ?_
    refine jx_next (pc := 52) (pc' := 32) rfl rfl ?_
    obtain rfl := Option.some.inj K
    refine jx_le (pl' := [some (.ref 110), none, some (.long (v2 + (h.2 150 v4.toNatClampNeg))), none, some (.int (v4 + 1))]) (jle_v (jle_n (jle_v (jle_n (jle_v jle_nil))))) ?_
    exact HL (v2 + (h.2 150 v4.toNatClampNeg), v4 + 1) rfl
theorem kM_above_l32_w {X : jX} {dd : Nat} {p d : Nat} {q : Nat → Nat} {Q : Option Value → jS → Prop}  {h : jH}  (hd : 3 ≤ (dd + 1)) {s : Int64 × Int32} {x : Int64} (K : jlim (fM_above_l32  h) s = some x) (HE : jEx X (dd + 1) jc_257 55 [some (.ref 110), none, some (.long x), none, none] [] (176, jRf p d q, h) Q) :
    jEx X (dd + 1) jc_257 32 [some (.ref 110), none, some (.long s.1), none, some (.int s.2)] [] (176, jRf p d q, h) Q := by
  refine jlim_ok (G := fun s : Int64 × Int32 => jEx X (dd + 1) jc_257 32 [some (.ref 110), none, some (.long s.1), none, some (.int s.2)] [] (176, jRf p d q, h) Q) (GX := fun x : Int64 => jEx X (dd + 1) jc_257 55 [some (.ref 110), none, some (.long x), none, none] [] (176, jRf p d q, h) Q) (fun s z hz HL HE => ?_) K HE
  exact kM_above_l32_b  hd hz HL HE
/-- AndGuestModel.above(I)I -/
noncomputable def fM_above (v1 : Int32) (h : jH) : Option (Int32 × jH) :=
  (if (h.1 110 48) = 0 then
  some ((-1), h)
  else
  (if (fM_isIn v1.toInt64 0 32) = 0 then
  some ((-1), h)
  else
  (Option.bind (fM_laysHeads h) (fun (z4 : jH) =>
  (Option.bind (jlim (fM_above_l32  z4) (0, v1 + 1)) (fun (x7 : Int64) =>
  (if ¬ (z4.2 110 53) = 0 then
  some (((x7 * 1000000) / (z4.2 110 53)).toInt32, z4)
  else none)))))))
theorem kM_above {X : jX} {dd : Nat} {p d : Nat} {q : Nat → Nat} {Q : Option Value → jS → Prop} {v1 : Int32} {h : jH}  (hd : 3 ≤ dd) {z : Int32 × jH} (K : fM_above v1 h = some z) (HQ : Q (some (.int z.1)) (176, jRf p d q, z.2)) :
    jCa X dd 257 [.ref 110, .int v1] (176, jRf p d q, h) Q := by
  obtain ⟨dd, rfl⟩ : ∃ d9, dd = d9 + 1 := ⟨dd - 1, by omega⟩
  unfold fM_above at K
  refine jCa_of (es := jc_257) (pl := [some (.ref 110), some (.int v1), none, none, none]) (M := jm_257) rfl rfl rfl rfl ?_
  refine jx_next (pc := 0) (pc' := 1) rfl rfl ?_
  refine jx_getz (pc := 1) rfl jko_110 ?_
  refine jx_ifeq (pc := 4) rfl (fun hc1 => ?_) (fun hc1 => ?_)
  · replace K := (if_pos hc1).symm.trans K
    refine jx_next (pc := 19) (pc' := 20) rfl rfl ?_
    obtain rfl := Option.some.inj K
    exact jx_iret (pc := 20) rfl HQ
  · replace K := (if_neg hc1).symm.trans K
    refine jx_next (pc := 7) (pc' := 8) rfl rfl ?_
    refine jx_next (pc := 8) (pc' := 9) rfl rfl ?_
    refine jx_next (pc := 9) (pc' := 10) rfl rfl ?_
    refine jx_next (pc := 10) (pc' := 13) rfl rfl ?_
    refine jx_calls (pc := 13) rfl (Nat.le_of_ble_eq_true rfl) (Nat.le_of_ble_eq_true rfl) ?_
    refine kM_isIn  (by omega) rfl ?_
    refine jx_ifne (pc := 16) rfl (fun hc3 => ?_) (fun hc3 => ?_)
    · replace K := (if_pos hc3).symm.trans K
      refine jx_next (pc := 19) (pc' := 20) rfl rfl ?_
      obtain rfl := Option.some.inj K
      exact jx_iret (pc := 20) rfl HQ
    · replace K := (if_neg hc3).symm.trans K
      refine jx_next (pc := 21) (pc' := 22) rfl rfl ?_
      refine jx_callv (pc := 22) (o := 110) (rest := []) rfl ⟨by decide, by decide⟩ rfl jko_110 (Nat.le_of_ble_eq_true rfl) ?_
      obtain ⟨z4, hz_z4, K⟩ := Option.bind_eq_some_iff.mp K
      refine kM_laysHeads  (by omega) hz_z4 ?_
      refine jx_next (pc := 25) (pc' := 26) rfl rfl ?_
      refine jx_stln (pc := 26) (p2 := [some (.ref 110), some (.int v1), some (.long 0), none, none]) rfl (jlt rfl) rfl ?_
      refine jx_next (pc := 27) (pc' := 28) rfl rfl ?_
      refine jx_next (pc := 28) (pc' := 29) rfl rfl ?_
      refine jx_next (pc := 29) (pc' := 30) rfl rfl ?_
      refine jx_sti (pc := 30) (p2 := [some (.ref 110), some (.int v1), some (.long 0), none, some (.int (v1 + 1))]) rfl (jlt rfl) rfl ?_
      refine jx_le (pl' := [some (.ref 110), none, some (.long 0), none, some (.int (v1 + 1))]) (jle_v (jle_n (jle_v (jle_n (jle_v jle_nil))))) ?_
      obtain ⟨x7, hz_x7, K⟩ := Option.bind_eq_some_iff.mp K
      refine kM_above_l32_w  hd hz_x7 ?_
      refine jx_next (pc := 55) (pc' := 56) rfl rfl ?_
      refine jx_next (pc := 56) (pc' := 59) rfl rfl ?_
      refine jx_next (pc := 59) (pc' := 60) rfl rfl ?_
      refine jx_next (pc := 60) (pc' := 61) rfl rfl ?_
      refine jx_getl (pc := 61) rfl jko_110 ?_
      obtain ⟨hg, K⟩ := jguard K
      refine jx_ldiv (pc := 64) rfl hg ?_
      refine jx_next (pc := 65) (pc' := 66) rfl rfl ?_
      obtain rfl := Option.some.inj K
      exact jx_iret (pc := 66) rfl HQ
noncomputable def fM_answers_l40_b (v1 : Int32) (v2 : Int32) (v3 : Int64) (v5 : Int32) (h : jH) : Option ((Int32 × jH) ⊕ (jH)) :=
  (if 8 < v5 then
  some (.inr h)
  else
  (if jin v5 9 then
  some (.inl (v5 + 1, jhL h 151 v5.toNatClampNeg 0))
  else none))
noncomputable def fM_answers_l40 (v1 : Int32) (v2 : Int32) (v3 : Int64) : (Int32 × jH) → Option ((Int32 × jH) ⊕ (jH)) :=
  fun (s : Int32 × jH) => fM_answers_l40_b v1 v2 v3 s.1 s.2
theorem kM_answers_l40_b {X : jX} {dd : Nat} {p d : Nat} {q : Nat → Nat} {Q : Option Value → jS → Prop} {v1 : Int32} {v2 : Int32} {v3 : Int64} {v5 : Int32} {h : jH}  (hd : 2 ≤ (dd + 1)) {z : (Int32 × jH) ⊕ (jH)} (K : fM_answers_l40_b v1 v2 v3 v5 h = some z) (HL : ∀ s : Int32 × jH, z = .inl s → jEx X (dd + 1) jc_258 40 [some (.ref 110), some (.int v1), some (.int v2), some (.long v3), none, some (.int s.1), none, none, none] [] (176, jRf p d q, s.2) Q) (HE0 : ∀ x : jH, z = .inr x → jEx X (dd + 1) jc_258 61 [some (.ref 110), some (.int v1), some (.int v2), some (.long v3), none, none, none, none, none] [] (176, jRf p d q, x) Q) :
    jEx X (dd + 1) jc_258 40 [some (.ref 110), some (.int v1), some (.int v2), some (.long v3), none, some (.int v5), none, none, none] [] (176, jRf p d q, h) Q := by
  unfold fM_answers_l40_b at K
  refine jx_next (pc := 40) (pc' := 42) rfl rfl ?_
  refine jx_next (pc := 42) (pc' := 44) rfl rfl ?_
  refine jx_icgt (pc := 44) rfl (fun hc6 => ?_) (fun hc6 => ?_)
  · replace K := (if_pos hc6).symm.trans K
    obtain rfl := Option.some.inj K
    refine jx_le (pl' := [some (.ref 110), some (.int v1), some (.int v2), some (.long v3), none, none, none, none, none]) (jle_v (jle_v (jle_v (jle_v (jle_n (jle_n (jle_n (jle_n (jle_n jle_nil))))))))) ?_
    exact HE0 _ rfl
  · replace K := (if_neg hc6).symm.trans K
    refine jx_next (pc := 47) (pc' := 48) rfl rfl ?_
    refine jx_getr2 (pc := 48) rfl jko_110 jr_12_54 ?_
    refine jx_next (pc := 51) (pc' := 53) rfl rfl ?_
    refine jx_next (pc := 53) (pc' := 54) rfl rfl ?_
    obtain ⟨hg7, K⟩ := jguard K
    refine jx_last2 (pc := 54) rfl jko_151 jno_151 hg7 ?_
    refine jx_inc (pc := 55) (x := v5) (p2 := [some (.ref 110), some (.int v1), some (.int v2), some (.long v3), none, some (.int (v5 + 1)), none, none, none]) rfl rfl (jlt rfl) rfl ?_
    refine jx_next (pc := 58) (pc' := 40) rfl rfl ?_
    obtain rfl := Option.some.inj K
    refine jx_le (pl' := [some (.ref 110), some (.int v1), some (.int v2), some (.long v3), none, some (.int (v5 + 1)), none, none, none]) (jle_v (jle_v (jle_v (jle_v (jle_n (jle_v (jle_n (jle_n (jle_n jle_nil))))))))) ?_
    exact HL (v5 + 1, jhL h 151 v5.toNatClampNeg 0) rfl
theorem kM_answers_l40_w {X : jX} {dd : Nat} {p d : Nat} {q : Nat → Nat} {Q : Option Value → jS → Prop} {v1 : Int32} {v2 : Int32} {v3 : Int64}  (hd : 2 ≤ (dd + 1)) {s : Int32 × jH} {x : jH} (K : jlim (fM_answers_l40 v1 v2 v3) s = some x) (HE : jEx X (dd + 1) jc_258 61 [some (.ref 110), some (.int v1), some (.int v2), some (.long v3), none, none, none, none, none] [] (176, jRf p d q, x) Q) :
    jEx X (dd + 1) jc_258 40 [some (.ref 110), some (.int v1), some (.int v2), some (.long v3), none, some (.int s.1), none, none, none] [] (176, jRf p d q, s.2) Q := by
  refine jlim_ok (G := fun s : Int32 × jH => jEx X (dd + 1) jc_258 40 [some (.ref 110), some (.int v1), some (.int v2), some (.long v3), none, some (.int s.1), none, none, none] [] (176, jRf p d q, s.2) Q) (GX := fun x : jH => jEx X (dd + 1) jc_258 61 [some (.ref 110), some (.int v1), some (.int v2), some (.long v3), none, none, none, none, none] [] (176, jRf p d q, x) Q) (fun s z hz HL HE => ?_) K HE
  exact kM_answers_l40_b  hd hz HL HE
noncomputable def fM_answers_l77_j122 (v1 : Int32) (v2 : Int32) (v3 : Int64) (v5 : Int32) (v6 : Int32) (s0 : Nat) (s1 : Int32) (s2 : Int64) (s3 : Int64) (h : jH) : Option ((Int32 × jH) ⊕ (jH)) :=
  (if jin s1 (jsh s0).2 then
  some (.inl (v6 + (-1), jhL h s0 s1.toNatClampNeg (s2 + s3)))
  else none)
theorem kM_answers_l77_j122 {X : jX} {dd : Nat} {p d : Nat} {q : Nat → Nat} {Q : Option Value → jS → Prop} {v1 : Int32} {v2 : Int32} {v3 : Int64} {v5 : Int32} {v6 : Int32} {s0 : Nat} {s1 : Int32} {s2 : Int64} {s3 : Int64} {h : jH} (hs0 : jcl 176 s0 = 21) (hd : 2 ≤ (dd + 1)) {z : (Int32 × jH) ⊕ (jH)} (K : fM_answers_l77_j122 v1 v2 v3 v5 v6 s0 s1 s2 s3 h = some z) (HL : ∀ s : Int32 × jH, z = .inl s → jEx X (dd + 1) jc_258 77 [some (.ref 110), some (.int v1), some (.int v2), some (.long v3), none, some (.int v5), some (.int s.1), none, none] [] (176, jRf p d q, s.2) Q) (HE0 : ∀ x : jH, z = .inr x → jEx X (dd + 1) jc_258 130 [some (.ref 110), some (.int v1), some (.int v2), some (.long v3), none, some (.int v5), none, none, none] [] (176, jRf p d q, x) Q) :
    jEx X (dd + 1) jc_258 122 [some (.ref 110), some (.int v1), some (.int v2), some (.long v3), none, some (.int v5), some (.int v6), none, none] [.long s3, .long s2, .int s1, .ref s0] (176, jRf p d q, h) Q := by
  unfold fM_answers_l77_j122 at K
  refine jx_next (pc := 122) (pc' := 123) rfl rfl ?_
  obtain ⟨hg15, K⟩ := jguard K
  refine jx_last2 (pc := 123) rfl hs0 rfl hg15 ?_
  refine jx_inc (pc := 124) (x := v6) (p2 := [some (.ref 110), some (.int v1), some (.int v2), some (.long v3), none, some (.int v5), some (.int (v6 + (-1))), none, none]) rfl rfl (jlt rfl) rfl ?_
  refine jx_next (pc := 127) (pc' := 77) rfl rfl ?_
  obtain rfl := Option.some.inj K
  refine jx_le (pl' := [some (.ref 110), some (.int v1), some (.int v2), some (.long v3), none, some (.int v5), some (.int (v6 + (-1))), none, none]) (jle_v (jle_v (jle_v (jle_v (jle_n (jle_v (jle_v (jle_n (jle_n jle_nil))))))))) ?_
  exact HL (v6 + (-1), jhL h s0 s1.toNatClampNeg (s2 + s3)) rfl
noncomputable def fM_answers_l77_b (v1 : Int32) (v2 : Int32) (v3 : Int64) (v5 : Int32) (v6 : Int32) (h : jH) : Option ((Int32 × jH) ⊕ (jH)) :=
  (if v6 < 0 then
  some (.inr h)
  else
  (if jin v6 9 then
  (if 0 < v6 then
  (if jin (v6 - 1) 9 then
  fM_answers_l77_j122  v1 v2 v3 v5 v6 151 v6 ((h.2 151 v6.toNatClampNeg) * ((100 - v2).toInt64)) ((h.2 151 (v6 - 1).toNatClampNeg) * v2.toInt64) h
  else none)
  else
  fM_answers_l77_j122  v1 v2 v3 v5 v6 151 v6 ((h.2 151 v6.toNatClampNeg) * ((100 - v2).toInt64)) 0 h)
  else none))
noncomputable def fM_answers_l77 (v1 : Int32) (v2 : Int32) (v3 : Int64) (v5 : Int32) : (Int32 × jH) → Option ((Int32 × jH) ⊕ (jH)) :=
  fun (s : Int32 × jH) => fM_answers_l77_b v1 v2 v3 v5 s.1 s.2
theorem kM_answers_l77_b {X : jX} {dd : Nat} {p d : Nat} {q : Nat → Nat} {Q : Option Value → jS → Prop} {v1 : Int32} {v2 : Int32} {v3 : Int64} {v5 : Int32} {v6 : Int32} {h : jH}  (hd : 2 ≤ (dd + 1)) {z : (Int32 × jH) ⊕ (jH)} (K : fM_answers_l77_b v1 v2 v3 v5 v6 h = some z) (HL : ∀ s : Int32 × jH, z = .inl s → jEx X (dd + 1) jc_258 77 [some (.ref 110), some (.int v1), some (.int v2), some (.long v3), none, some (.int v5), some (.int s.1), none, none] [] (176, jRf p d q, s.2) Q) (HE0 : ∀ x : jH, z = .inr x → jEx X (dd + 1) jc_258 130 [some (.ref 110), some (.int v1), some (.int v2), some (.long v3), none, some (.int v5), none, none, none] [] (176, jRf p d q, x) Q) :
    jEx X (dd + 1) jc_258 77 [some (.ref 110), some (.int v1), some (.int v2), some (.long v3), none, some (.int v5), some (.int v6), none, none] [] (176, jRf p d q, h) Q := by
  unfold fM_answers_l77_b at K
  refine jx_next (pc := 77) (pc' := 79) rfl rfl ?_
  refine jx_iflt (pc := 79) rfl (fun hc11 => ?_) (fun hc11 => ?_)
  · replace K := (if_pos hc11).symm.trans K
    obtain rfl := Option.some.inj K
    refine jx_le (pl' := [some (.ref 110), some (.int v1), some (.int v2), some (.long v3), none, some (.int v5), none, none, none]) (jle_v (jle_v (jle_v (jle_v (jle_n (jle_v (jle_n (jle_n (jle_n jle_nil))))))))) ?_
    exact HE0 _ rfl
  · replace K := (if_neg hc11).symm.trans K
    refine jx_next (pc := 82) (pc' := 83) rfl rfl ?_
    refine jx_getr2 (pc := 83) rfl jko_110 jr_12_54 ?_
    refine jx_next (pc := 86) (pc' := 88) rfl rfl ?_
    refine jx_next (pc := 88) (pc' := 89) rfl rfl ?_
    refine jx_getr2 (pc := 89) rfl jko_110 jr_12_54 ?_
    refine jx_next (pc := 92) (pc' := 94) rfl rfl ?_
    obtain ⟨hg12, K⟩ := jguard K
    refine jx_lald2 (pc := 94) rfl jko_151 jno_151 hg12 ?_
    refine jx_next (pc := 95) (pc' := 97) rfl rfl ?_
    refine jx_next (pc := 97) (pc' := 98) rfl rfl ?_
    refine jx_next (pc := 98) (pc' := 99) rfl rfl ?_
    refine jx_next (pc := 99) (pc' := 100) rfl rfl ?_
    refine jx_next (pc := 100) (pc' := 101) rfl rfl ?_
    refine jx_next (pc := 101) (pc' := 103) rfl rfl ?_
    refine jx_ifle (pc := 103) rfl (fun hc13 => ?_) (fun hc13 => ?_)
    · replace K := (if_pos hc13).symm.trans K
      refine jx_next (pc := 106) (pc' := 107) rfl rfl ?_
      refine jx_getr2 (pc := 107) rfl jko_110 jr_12_54 ?_
      refine jx_next (pc := 110) (pc' := 112) rfl rfl ?_
      refine jx_next (pc := 112) (pc' := 113) rfl rfl ?_
      refine jx_next (pc := 113) (pc' := 114) rfl rfl ?_
      obtain ⟨hg14, K⟩ := jguard K
      refine jx_lald2 (pc := 114) rfl jko_151 jno_151 hg14 ?_
      refine jx_next (pc := 115) (pc' := 116) rfl rfl ?_
      refine jx_next (pc := 116) (pc' := 117) rfl rfl ?_
      refine jx_next (pc := 117) (pc' := 118) rfl rfl ?_
      refine jx_next (pc := 118) (pc' := 122) rfl rfl ?_
      refine jx_le (pl' := [some (.ref 110), some (.int v1), some (.int v2), some (.long v3), none, some (.int v5), some (.int v6), none, none]) (jle_v (jle_v (jle_v (jle_v (jle_n (jle_v (jle_v (jle_n (jle_n jle_nil))))))))) ?_
      exact kM_answers_l77_j122 jko_151 hd K HL HE0
    · replace K := (if_neg hc13).symm.trans K
      refine jx_next (pc := 121) (pc' := 122) rfl rfl ?_
      refine jx_le (pl' := [some (.ref 110), some (.int v1), some (.int v2), some (.long v3), none, some (.int v5), some (.int v6), none, none]) (jle_v (jle_v (jle_v (jle_v (jle_n (jle_v (jle_v (jle_n (jle_n jle_nil))))))))) ?_
      exact kM_answers_l77_j122 jko_151 hd K HL HE0
theorem kM_answers_l77_w {X : jX} {dd : Nat} {p d : Nat} {q : Nat → Nat} {Q : Option Value → jS → Prop} {v1 : Int32} {v2 : Int32} {v3 : Int64} {v5 : Int32}  (hd : 2 ≤ (dd + 1)) {s : Int32 × jH} {x : jH} (K : jlim (fM_answers_l77 v1 v2 v3 v5) s = some x) (HE : jEx X (dd + 1) jc_258 130 [some (.ref 110), some (.int v1), some (.int v2), some (.long v3), none, some (.int v5), none, none, none] [] (176, jRf p d q, x) Q) :
    jEx X (dd + 1) jc_258 77 [some (.ref 110), some (.int v1), some (.int v2), some (.long v3), none, some (.int v5), some (.int s.1), none, none] [] (176, jRf p d q, s.2) Q := by
  refine jlim_ok (G := fun s : Int32 × jH => jEx X (dd + 1) jc_258 77 [some (.ref 110), some (.int v1), some (.int v2), some (.long v3), none, some (.int v5), some (.int s.1), none, none] [] (176, jRf p d q, s.2) Q) (GX := fun x : jH => jEx X (dd + 1) jc_258 130 [some (.ref 110), some (.int v1), some (.int v2), some (.long v3), none, some (.int v5), none, none, none] [] (176, jRf p d q, x) Q) (fun s z hz HL HE => ?_) K HE
  exact kM_answers_l77_b  hd hz HL HE
noncomputable def fM_answers_l68_b (v1 : Int32) (v2 : Int32) (v3 : Int64) (v5 : Int32) (h : jH) : Option ((Int64 × Int32 × jH) ⊕ (Int64 × jH)) :=
  (if 0 < v5 then
  (Option.bind (jlim (fM_answers_l77  v1 v2 v3 v5) (8, h)) (fun (x16 : jH) =>
  some (.inl (v3 * 100, v5 + (-1), x16))))
  else
  some (.inr (v3, h)))
noncomputable def fM_answers_l68 (v1 : Int32) (v2 : Int32) : (Int64 × Int32 × jH) → Option ((Int64 × Int32 × jH) ⊕ (Int64 × jH)) :=
  fun (s : Int64 × Int32 × jH) => fM_answers_l68_b v1 v2 s.1 s.2.1 s.2.2
theorem kM_answers_l68_b {X : jX} {dd : Nat} {p d : Nat} {q : Nat → Nat} {Q : Option Value → jS → Prop} {v1 : Int32} {v2 : Int32} {v3 : Int64} {v5 : Int32} {h : jH}  (hd : 2 ≤ (dd + 1)) {z : (Int64 × Int32 × jH) ⊕ (Int64 × jH)} (K : fM_answers_l68_b v1 v2 v3 v5 h = some z) (HL : ∀ s : Int64 × Int32 × jH, z = .inl s → jEx X (dd + 1) jc_258 68 [some (.ref 110), some (.int v1), some (.int v2), some (.long s.1), none, some (.int s.2.1), none, none, none] [] (176, jRf p d q, s.2.2) Q) (HE0 : ∀ x : Int64 × jH, z = .inr x → jEx X (dd + 1) jc_258 142 [some (.ref 110), some (.int v1), none, some (.long x.1), none, none, none, none, none] [] (176, jRf p d q, x.2) Q) :
    jEx X (dd + 1) jc_258 68 [some (.ref 110), some (.int v1), some (.int v2), some (.long v3), none, some (.int v5), none, none, none] [] (176, jRf p d q, h) Q := by
  unfold fM_answers_l68_b at K
  refine jx_next (pc := 68) (pc' := 70) rfl rfl ?_
  refine jx_ifle (pc := 70) rfl (fun hc10 => ?_) (fun hc10 => ?_)
  · replace K := (if_pos hc10).symm.trans K
    refine jx_next (pc := 73) (pc' := 75) rfl rfl ?_
    refine jx_sti (pc := 75) (p2 := [some (.ref 110), some (.int v1), some (.int v2), some (.long v3), none, some (.int v5), some (.int 8), none, none]) rfl (jlt rfl) rfl ?_
    refine jx_le (pl' := [some (.ref 110), some (.int v1), some (.int v2), some (.long v3), none, some (.int v5), some (.int 8), none, none]) (jle_v (jle_v (jle_v (jle_v (jle_n (jle_v (jle_v (jle_n (jle_n jle_nil))))))))) ?_
    obtain ⟨x16, hz_x16, K⟩ := Option.bind_eq_some_iff.mp K
    refine kM_answers_l77_w  hd hz_x16 ?_
    refine jx_next (pc := 130) (pc' := 131) rfl rfl ?_
    refine jx_next (pc := 131) (pc' := 134) rfl rfl ?_
    refine jx_next (pc := 134) (pc' := 135) rfl rfl ?_
    refine jx_stln (pc := 135) (p2 := [some (.ref 110), some (.int v1), some (.int v2), some (.long (v3 * 100)), none, some (.int v5), none, none, none]) rfl (jlt rfl) rfl ?_
    refine jx_inc (pc := 136) (x := v5) (p2 := [some (.ref 110), some (.int v1), some (.int v2), some (.long (v3 * 100)), none, some (.int (v5 + (-1))), none, none, none]) rfl rfl (jlt rfl) rfl ?_
    refine jx_next (pc := 139) (pc' := 68) rfl rfl ?_
    obtain rfl := Option.some.inj K
    refine jx_le (pl' := [some (.ref 110), some (.int v1), some (.int v2), some (.long (v3 * 100)), none, some (.int (v5 + (-1))), none, none, none]) (jle_v (jle_v (jle_v (jle_v (jle_n (jle_v (jle_n (jle_n (jle_n jle_nil))))))))) ?_
    exact HL (v3 * 100, v5 + (-1), x16) rfl
  · replace K := (if_neg hc10).symm.trans K
    obtain rfl := Option.some.inj K
    refine jx_le (pl' := [some (.ref 110), some (.int v1), none, some (.long v3), none, none, none, none, none]) (jle_v (jle_v (jle_n (jle_v (jle_n (jle_n (jle_n (jle_n (jle_n jle_nil))))))))) ?_
    exact HE0 _ rfl
theorem kM_answers_l68_w {X : jX} {dd : Nat} {p d : Nat} {q : Nat → Nat} {Q : Option Value → jS → Prop} {v1 : Int32} {v2 : Int32}  (hd : 2 ≤ (dd + 1)) {s : Int64 × Int32 × jH} {x : Int64 × jH} (K : jlim (fM_answers_l68 v1 v2) s = some x) (HE : jEx X (dd + 1) jc_258 142 [some (.ref 110), some (.int v1), none, some (.long x.1), none, none, none, none, none] [] (176, jRf p d q, x.2) Q) :
    jEx X (dd + 1) jc_258 68 [some (.ref 110), some (.int v1), some (.int v2), some (.long s.1), none, some (.int s.2.1), none, none, none] [] (176, jRf p d q, s.2.2) Q := by
  refine jlim_ok (G := fun s : Int64 × Int32 × jH => jEx X (dd + 1) jc_258 68 [some (.ref 110), some (.int v1), some (.int v2), some (.long s.1), none, some (.int s.2.1), none, none, none] [] (176, jRf p d q, s.2.2) Q) (GX := fun x : Int64 × jH => jEx X (dd + 1) jc_258 142 [some (.ref 110), some (.int v1), none, some (.long x.1), none, none, none, none, none] [] (176, jRf p d q, x.2) Q) (fun s z hz HL HE => ?_) K HE
  exact kM_answers_l68_b  hd hz HL HE
noncomputable def fM_answers_l156_b (v3 : Int64) (v5 : Int64) (v7 : Int32) (v8 : Int32) (h : jH) : Option ((Int64 × Int32 × Int32) ⊕ (Int32)) :=
  (if v8 < 6 then
  (if ¬ v3 = 0 then
  (if ¬ v3 = 0 then
  some (.inl ((v5 * 10) - (v5 * 10) / v3 * v3, (10 * v7) + (((v5 * 10) / v3).toInt32), v8 + 1))
  else none)
  else none)
  else
  some (.inr v7))
noncomputable def fM_answers_l156 (v3 : Int64) (h : jH) : (Int64 × Int32 × Int32) → Option ((Int64 × Int32 × Int32) ⊕ (Int32)) :=
  fun (s : Int64 × Int32 × Int32) => fM_answers_l156_b v3 s.1 s.2.1 s.2.2 h
theorem kM_answers_l156_b {X : jX} {dd : Nat} {p d : Nat} {q : Nat → Nat} {Q : Option Value → jS → Prop} {v3 : Int64} {v5 : Int64} {v7 : Int32} {v8 : Int32} {h : jH}  (hd : 2 ≤ (dd + 1)) {z : (Int64 × Int32 × Int32) ⊕ (Int32)} (K : fM_answers_l156_b v3 v5 v7 v8 h = some z) (HL : ∀ s : Int64 × Int32 × Int32, z = .inl s → jEx X (dd + 1) jc_258 156 [none, none, none, some (.long v3), none, some (.long s.1), none, some (.int s.2.1), some (.int s.2.2)] [] (176, jRf p d q, h) Q) (HE0 : ∀ x : Int32, z = .inr x → jEx X (dd + 1) jc_258 196 [none, none, none, none, none, none, none, some (.int x), none] [] (176, jRf p d q, h) Q) :
    jEx X (dd + 1) jc_258 156 [none, none, none, some (.long v3), none, some (.long v5), none, some (.int v7), some (.int v8)] [] (176, jRf p d q, h) Q := by
  unfold fM_answers_l156_b at K
  refine jx_next (pc := 156) (pc' := 158) rfl rfl ?_
  refine jx_next (pc := 158) (pc' := 160) rfl rfl ?_
  refine jx_icge (pc := 160) rfl (fun hc19 => ?_) (fun hc19 => ?_)
  · replace K := (if_pos hc19).symm.trans K
    refine jx_next (pc := 163) (pc' := 165) rfl rfl ?_
    refine jx_next (pc := 165) (pc' := 168) rfl rfl ?_
    refine jx_next (pc := 168) (pc' := 169) rfl rfl ?_
    refine jx_stl (pc := 169) (p2 := [none, none, none, some (.long v3), none, some (.long (v5 * 10)), none, some (.int v7), some (.int v8)]) rfl (jlt rfl) rfl ?_
    refine jx_next (pc := 171) (pc' := 173) rfl rfl ?_
    refine jx_next (pc := 173) (pc' := 175) rfl rfl ?_
    refine jx_next (pc := 175) (pc' := 176) rfl rfl ?_
    refine jx_next (pc := 176) (pc' := 178) rfl rfl ?_
    refine jx_next (pc := 178) (pc' := 179) rfl rfl ?_
    obtain ⟨hg, K⟩ := jguard K
    refine jx_ldiv (pc := 179) rfl hg ?_
    refine jx_next (pc := 180) (pc' := 181) rfl rfl ?_
    refine jx_next (pc := 181) (pc' := 182) rfl rfl ?_
    refine jx_sti (pc := 182) (p2 := [none, none, none, some (.long v3), none, some (.long (v5 * 10)), none, some (.int ((10 * v7) + (((v5 * 10) / v3).toInt32))), some (.int v8)]) rfl (jlt rfl) rfl ?_
    refine jx_next (pc := 184) (pc' := 186) rfl rfl ?_
    refine jx_next (pc := 186) (pc' := 187) rfl rfl ?_
    obtain ⟨hg, K⟩ := jguard K
    refine jx_lrem (pc := 187) rfl hg ?_
    refine jx_stl (pc := 188) (p2 := [none, none, none, some (.long v3), none, some (.long ((v5 * 10) - (v5 * 10) / v3 * v3)), none, some (.int ((10 * v7) + (((v5 * 10) / v3).toInt32))), some (.int v8)]) rfl (jlt rfl) rfl ?_
    refine jx_inc (pc := 190) (x := v8) (p2 := [none, none, none, some (.long v3), none, some (.long ((v5 * 10) - (v5 * 10) / v3 * v3)), none, some (.int ((10 * v7) + (((v5 * 10) / v3).toInt32))), some (.int (v8 + 1))]) rfl rfl (jlt rfl) rfl ?_
    refine jx_next (pc := 193) (pc' := 156) rfl rfl ?_
    obtain rfl := Option.some.inj K
    refine jx_le (pl' := [none, none, none, some (.long v3), none, some (.long ((v5 * 10) - (v5 * 10) / v3 * v3)), none, some (.int ((10 * v7) + (((v5 * 10) / v3).toInt32))), some (.int (v8 + 1))]) (jle_n (jle_n (jle_n (jle_v (jle_n (jle_v (jle_n (jle_v (jle_v jle_nil))))))))) ?_
    exact HL ((v5 * 10) - (v5 * 10) / v3 * v3, (10 * v7) + (((v5 * 10) / v3).toInt32), v8 + 1) rfl
  · replace K := (if_neg hc19).symm.trans K
    obtain rfl := Option.some.inj K
    refine jx_le (pl' := [none, none, none, none, none, none, none, some (.int v7), none]) (jle_n (jle_n (jle_n (jle_n (jle_n (jle_n (jle_n (jle_v (jle_n jle_nil))))))))) ?_
    exact HE0 _ rfl
theorem kM_answers_l156_w {X : jX} {dd : Nat} {p d : Nat} {q : Nat → Nat} {Q : Option Value → jS → Prop} {v3 : Int64} {h : jH}  (hd : 2 ≤ (dd + 1)) {s : Int64 × Int32 × Int32} {x : Int32} (K : jlim (fM_answers_l156 v3 h) s = some x) (HE : jEx X (dd + 1) jc_258 196 [none, none, none, none, none, none, none, some (.int x), none] [] (176, jRf p d q, h) Q) :
    jEx X (dd + 1) jc_258 156 [none, none, none, some (.long v3), none, some (.long s.1), none, some (.int s.2.1), some (.int s.2.2)] [] (176, jRf p d q, h) Q := by
  refine jlim_ok (G := fun s : Int64 × Int32 × Int32 => jEx X (dd + 1) jc_258 156 [none, none, none, some (.long v3), none, some (.long s.1), none, some (.int s.2.1), some (.int s.2.2)] [] (176, jRf p d q, h) Q) (GX := fun x : Int32 => jEx X (dd + 1) jc_258 196 [none, none, none, none, none, none, none, some (.int x), none] [] (176, jRf p d q, h) Q) (fun s z hz HL HE => ?_) K HE
  exact kM_answers_l156_b  hd hz HL HE
/-- AndGuestModel.answers(I)I -/
noncomputable def fM_answers (v1 : Int32) (h : jH) : Option (Int32 × jH) :=
  (if (h.1 110 48) = 0 then
  some ((-1), h)
  else
  (if (fM_isIn v1.toInt64 0 8) = 0 then
  some ((-1), h)
  else
  (if jin 4 6 then
  (if jin 0 9 then
  (Option.bind (jlim (fM_answers_l40  v1 (h.1 144 (4 : Int32).toNatClampNeg) 1) (1, jhL h 151 (0 : Int32).toNatClampNeg 1)) (fun (x8 : jH) =>
  (Option.bind (fM_howMany 1 x8) (fun (z9 : Int32) =>
  (Option.bind (jlim (fM_answers_l68  v1 (h.1 144 (4 : Int32).toNatClampNeg)) (1, z9, x8)) (fun (x17 : Int64 × jH) =>
  (if jin v1 9 then
  (Option.bind (jlim (fM_answers_l156  x17.1 x17.2) (x17.2.2 151 v1.toNatClampNeg, 0, 0)) (fun (x20 : Int32) =>
  some (x20, x17.2)))
  else none)))))))
  else none)
  else none)))
theorem kM_answers {X : jX} {dd : Nat} {p d : Nat} {q : Nat → Nat} {Q : Option Value → jS → Prop} {v1 : Int32} {h : jH}  (hd : 2 ≤ dd) {z : Int32 × jH} (K : fM_answers v1 h = some z) (HQ : Q (some (.int z.1)) (176, jRf p d q, z.2)) :
    jCa X dd 258 [.ref 110, .int v1] (176, jRf p d q, h) Q := by
  obtain ⟨dd, rfl⟩ : ∃ d9, dd = d9 + 1 := ⟨dd - 1, by omega⟩
  unfold fM_answers at K
  refine jCa_of (es := jc_258) (pl := [some (.ref 110), some (.int v1), none, none, none, none, none, none, none]) (M := jm_258) rfl rfl rfl rfl ?_
  refine jx_next (pc := 0) (pc' := 1) rfl rfl ?_
  refine jx_getz (pc := 1) rfl jko_110 ?_
  refine jx_ifeq (pc := 4) rfl (fun hc1 => ?_) (fun hc1 => ?_)
  · replace K := (if_pos hc1).symm.trans K
    refine jx_next (pc := 19) (pc' := 20) rfl rfl ?_
    obtain rfl := Option.some.inj K
    exact jx_iret (pc := 20) rfl HQ
  · replace K := (if_neg hc1).symm.trans K
    refine jx_next (pc := 7) (pc' := 8) rfl rfl ?_
    refine jx_next (pc := 8) (pc' := 9) rfl rfl ?_
    refine jx_next (pc := 9) (pc' := 10) rfl rfl ?_
    refine jx_next (pc := 10) (pc' := 13) rfl rfl ?_
    refine jx_calls (pc := 13) rfl (Nat.le_of_ble_eq_true rfl) (Nat.le_of_ble_eq_true rfl) ?_
    refine kM_isIn  (by omega) rfl ?_
    refine jx_ifne (pc := 16) rfl (fun hc3 => ?_) (fun hc3 => ?_)
    · replace K := (if_pos hc3).symm.trans K
      refine jx_next (pc := 19) (pc' := 20) rfl rfl ?_
      obtain rfl := Option.some.inj K
      exact jx_iret (pc := 20) rfl HQ
    · replace K := (if_neg hc3).symm.trans K
      refine jx_next (pc := 21) (pc' := 22) rfl rfl ?_
      refine jx_getr2 (pc := 22) rfl jko_110 jr_12_42 ?_
      refine jx_next (pc := 25) (pc' := 26) rfl rfl ?_
      obtain ⟨hg4, K⟩ := jguard K
      refine jx_iald2 (pc := 26) rfl jko_144 jno_144 hg4 ?_
      refine jx_stin (pc := 27) (p2 := [some (.ref 110), some (.int v1), some (.int (h.1 144 (4 : Int32).toNatClampNeg)), none, none, none, none, none, none]) rfl (jlt rfl) rfl ?_
      refine jx_next (pc := 28) (pc' := 29) rfl rfl ?_
      refine jx_stln (pc := 29) (p2 := [some (.ref 110), some (.int v1), some (.int (h.1 144 (4 : Int32).toNatClampNeg)), some (.long 1), none, none, none, none, none]) rfl (jlt rfl) rfl ?_
      refine jx_next (pc := 30) (pc' := 31) rfl rfl ?_
      refine jx_getr2 (pc := 31) rfl jko_110 jr_12_54 ?_
      refine jx_next (pc := 34) (pc' := 35) rfl rfl ?_
      refine jx_next (pc := 35) (pc' := 36) rfl rfl ?_
      obtain ⟨hg5, K⟩ := jguard K
      refine jx_last2 (pc := 36) rfl jko_151 jno_151 hg5 ?_
      refine jx_next (pc := 37) (pc' := 38) rfl rfl ?_
      refine jx_sti (pc := 38) (p2 := [some (.ref 110), some (.int v1), some (.int (h.1 144 (4 : Int32).toNatClampNeg)), some (.long 1), none, some (.int 1), none, none, none]) rfl (jlt rfl) rfl ?_
      refine jx_le (pl' := [some (.ref 110), some (.int v1), some (.int (h.1 144 (4 : Int32).toNatClampNeg)), some (.long 1), none, some (.int 1), none, none, none]) (jle_v (jle_v (jle_v (jle_v (jle_n (jle_v (jle_n (jle_n (jle_n jle_nil))))))))) ?_
      obtain ⟨x8, hz_x8, K⟩ := Option.bind_eq_some_iff.mp K
      refine kM_answers_l40_w  hd hz_x8 ?_
      refine jx_next (pc := 61) (pc' := 62) rfl rfl ?_
      refine jx_next (pc := 62) (pc' := 63) rfl rfl ?_
      refine jx_callv (pc := 63) (o := 110) (rest := []) rfl ⟨by decide, by decide⟩ rfl jko_110 (Nat.le_of_ble_eq_true rfl) ?_
      obtain ⟨z9, hz_z9, K⟩ := Option.bind_eq_some_iff.mp K
      refine kM_howMany  (by omega) hz_z9 ?_
      refine jx_sti (pc := 66) (p2 := [some (.ref 110), some (.int v1), some (.int (h.1 144 (4 : Int32).toNatClampNeg)), some (.long 1), none, some (.int z9), none, none, none]) rfl (jlt rfl) rfl ?_
      refine jx_le (pl' := [some (.ref 110), some (.int v1), some (.int (h.1 144 (4 : Int32).toNatClampNeg)), some (.long 1), none, some (.int z9), none, none, none]) (jle_v (jle_v (jle_v (jle_v (jle_n (jle_v (jle_n (jle_n (jle_n jle_nil))))))))) ?_
      obtain ⟨x17, hz_x17, K⟩ := Option.bind_eq_some_iff.mp K
      refine kM_answers_l68_w  hd hz_x17 ?_
      refine jx_next (pc := 142) (pc' := 143) rfl rfl ?_
      refine jx_getr2 (pc := 143) rfl jko_110 jr_12_54 ?_
      refine jx_next (pc := 146) (pc' := 147) rfl rfl ?_
      obtain ⟨hg18, K⟩ := jguard K
      refine jx_lald2 (pc := 147) rfl jko_151 jno_151 hg18 ?_
      refine jx_stl (pc := 148) (p2 := [some (.ref 110), some (.int v1), none, some (.long x17.1), none, some (.long (x17.2.2 151 v1.toNatClampNeg)), none, none, none]) rfl (jlt rfl) rfl ?_
      refine jx_next (pc := 150) (pc' := 151) rfl rfl ?_
      refine jx_sti (pc := 151) (p2 := [some (.ref 110), some (.int v1), none, some (.long x17.1), none, some (.long (x17.2.2 151 v1.toNatClampNeg)), none, some (.int 0), none]) rfl (jlt rfl) rfl ?_
      refine jx_next (pc := 153) (pc' := 154) rfl rfl ?_
      refine jx_sti (pc := 154) (p2 := [some (.ref 110), some (.int v1), none, some (.long x17.1), none, some (.long (x17.2.2 151 v1.toNatClampNeg)), none, some (.int 0), some (.int 0)]) rfl (jlt rfl) rfl ?_
      refine jx_le (pl' := [none, none, none, some (.long x17.1), none, some (.long (x17.2.2 151 v1.toNatClampNeg)), none, some (.int 0), some (.int 0)]) (jle_n (jle_n (jle_n (jle_v (jle_n (jle_v (jle_n (jle_v (jle_v jle_nil))))))))) ?_
      obtain ⟨x20, hz_x20, K⟩ := Option.bind_eq_some_iff.mp K
      refine kM_answers_l156_w  hd hz_x20 ?_
      refine jx_next (pc := 196) (pc' := 198) rfl rfl ?_
      obtain rfl := Option.some.inj K
      exact jx_iret (pc := 198) rfl HQ
noncomputable def fM_meanTens_l4_b (v1 : Int32) (v2 : Int32) (h : jH) : Option ((Int32 × Int32) ⊕ (Int32)) :=
  (Option.bind (fM_guestMany h) (fun (z1 : Int32) =>
  (if v2 < z1 then
  (Option.bind (fM_tensOf v2 h) (fun (z3 : Int32) =>
  (Option.bind (fM_sizeOf v2 h) (fun (z4 : Int32) =>
  some (.inl (v1 + (z3 * z4), v2 + 1))))))
  else
  some (.inr v1))))
noncomputable def fM_meanTens_l4  (h : jH) : (Int32 × Int32) → Option ((Int32 × Int32) ⊕ (Int32)) :=
  fun (s : Int32 × Int32) => fM_meanTens_l4_b s.1 s.2 h
theorem kM_meanTens_l4_b {X : jX} {dd : Nat} {p d : Nat} {q : Nat → Nat} {Q : Option Value → jS → Prop} {v1 : Int32} {v2 : Int32} {h : jH}  (hd : 2 ≤ (dd + 1)) {z : (Int32 × Int32) ⊕ (Int32)} (K : fM_meanTens_l4_b v1 v2 h = some z) (HL : ∀ s : Int32 × Int32, z = .inl s → jEx X (dd + 1) jc_260 4 [some (.ref 110), some (.int s.1), some (.int s.2)] [] (176, jRf p d q, h) Q) (HE0 : ∀ x : Int32, z = .inr x → jEx X (dd + 1) jc_260 32 [none, some (.int x), none] [] (176, jRf p d q, h) Q) :
    jEx X (dd + 1) jc_260 4 [some (.ref 110), some (.int v1), some (.int v2)] [] (176, jRf p d q, h) Q := by
  unfold fM_meanTens_l4_b at K
  refine jx_next (pc := 4) (pc' := 5) rfl rfl ?_
  refine jx_next (pc := 5) (pc' := 6) rfl rfl ?_
  refine jx_callv (pc := 6) (o := 110) (rest := [.int v2]) rfl ⟨by decide, by decide⟩ rfl jko_110 (Nat.le_of_ble_eq_true rfl) ?_
  obtain ⟨z1, hz_z1, K⟩ := Option.bind_eq_some_iff.mp K
  refine kM_guestMany  (by omega) hz_z1 ?_
  refine jx_icge (pc := 9) rfl (fun hc2 => ?_) (fun hc2 => ?_)
  · replace K := (if_pos hc2).symm.trans K
    refine jx_next (pc := 12) (pc' := 13) rfl rfl ?_
    refine jx_next (pc := 13) (pc' := 14) rfl rfl ?_
    refine jx_next (pc := 14) (pc' := 15) rfl rfl ?_
    refine jx_callv (pc := 15) (o := 110) (rest := [.int v1]) rfl ⟨by decide, by decide⟩ rfl jko_110 (Nat.le_of_ble_eq_true rfl) ?_
    obtain ⟨z3, hz_z3, K⟩ := Option.bind_eq_some_iff.mp K
    refine kM_tensOf  (by omega) hz_z3 ?_
    refine jx_next (pc := 18) (pc' := 19) rfl rfl ?_
    refine jx_next (pc := 19) (pc' := 20) rfl rfl ?_
    refine jx_callv (pc := 20) (o := 110) (rest := [.int z3, .int v1]) rfl ⟨by decide, by decide⟩ rfl jko_110 (Nat.le_of_ble_eq_true rfl) ?_
    obtain ⟨z4, hz_z4, K⟩ := Option.bind_eq_some_iff.mp K
    refine kM_sizeOf  (by omega) hz_z4 ?_
    refine jx_next (pc := 23) (pc' := 24) rfl rfl ?_
    refine jx_next (pc := 24) (pc' := 25) rfl rfl ?_
    refine jx_stin (pc := 25) (p2 := [some (.ref 110), some (.int (v1 + (z3 * z4))), some (.int v2)]) rfl (jlt rfl) rfl ?_
    refine jx_inc (pc := 26) (x := v2) (p2 := [some (.ref 110), some (.int (v1 + (z3 * z4))), some (.int (v2 + 1))]) rfl rfl (jlt rfl) rfl ?_
    refine jx_next (pc := 29) (pc' := 4) rfl rfl ?_
    obtain rfl := Option.some.inj K
    refine jx_le (pl' := [some (.ref 110), some (.int (v1 + (z3 * z4))), some (.int (v2 + 1))]) (jle_v (jle_v (jle_v jle_nil))) ?_
    exact HL (v1 + (z3 * z4), v2 + 1) rfl
  · replace K := (if_neg hc2).symm.trans K
    obtain rfl := Option.some.inj K
    refine jx_le (pl' := [none, some (.int v1), none]) (jle_n (jle_v (jle_n jle_nil))) ?_
    exact HE0 _ rfl
theorem kM_meanTens_l4_w {X : jX} {dd : Nat} {p d : Nat} {q : Nat → Nat} {Q : Option Value → jS → Prop}  {h : jH}  (hd : 2 ≤ (dd + 1)) {s : Int32 × Int32} {x : Int32} (K : jlim (fM_meanTens_l4  h) s = some x) (HE : jEx X (dd + 1) jc_260 32 [none, some (.int x), none] [] (176, jRf p d q, h) Q) :
    jEx X (dd + 1) jc_260 4 [some (.ref 110), some (.int s.1), some (.int s.2)] [] (176, jRf p d q, h) Q := by
  refine jlim_ok (G := fun s : Int32 × Int32 => jEx X (dd + 1) jc_260 4 [some (.ref 110), some (.int s.1), some (.int s.2)] [] (176, jRf p d q, h) Q) (GX := fun x : Int32 => jEx X (dd + 1) jc_260 32 [none, some (.int x), none] [] (176, jRf p d q, h) Q) (fun s z hz HL HE => ?_) K HE
  exact kM_meanTens_l4_b  hd hz HL HE
/-- AndGuestModel.meanTens()I -/
noncomputable def fM_meanTens  (h : jH) : Option Int32 :=
  (Option.bind (jlim (fM_meanTens_l4  h) (0, 0)) (fun (x5 : Int32) =>
  some (x5 : Int32)))
theorem kM_meanTens {X : jX} {dd : Nat} {p d : Nat} {q : Nat → Nat} {Q : Option Value → jS → Prop}  {h : jH}  (hd : 2 ≤ dd) {z : Int32} (K : fM_meanTens  h = some z) (HQ : Q (some (.int z)) (176, jRf p d q, h)) :
    jCa X dd 260 [.ref 110] (176, jRf p d q, h) Q := by
  obtain ⟨dd, rfl⟩ : ∃ d9, dd = d9 + 1 := ⟨dd - 1, by omega⟩
  unfold fM_meanTens at K
  refine jCa_of (es := jc_260) (pl := [some (.ref 110), none, none]) (M := jm_260) rfl rfl rfl rfl ?_
  refine jx_next (pc := 0) (pc' := 1) rfl rfl ?_
  refine jx_stin (pc := 1) (p2 := [some (.ref 110), some (.int 0), none]) rfl (jlt rfl) rfl ?_
  refine jx_next (pc := 2) (pc' := 3) rfl rfl ?_
  refine jx_stin (pc := 3) (p2 := [some (.ref 110), some (.int 0), some (.int 0)]) rfl (jlt rfl) rfl ?_
  refine jx_le (pl' := [some (.ref 110), some (.int 0), some (.int 0)]) (jle_v (jle_v (jle_v jle_nil))) ?_
  obtain ⟨x5, hz_x5, K⟩ := Option.bind_eq_some_iff.mp K
  refine kM_meanTens_l4_w  hd hz_x5 ?_
  refine jx_next (pc := 32) (pc' := 33) rfl rfl ?_
  obtain rfl := Option.some.inj K
  exact jx_iret (pc := 33) rfl HQ
