noncomputable def fM_wedding_l40_b (v1 : Int32) (h : jH) : Option ((Int32 × jH) ⊕ (jH)) :=
  (if v1 < 3 then
  (if jin v1 6 then
  some (.inl (v1 + 1, jhI h 138 v1.toNatClampNeg 0))
  else none)
  else
  some (.inr h))
noncomputable def fM_wedding_l40  : (Int32 × jH) → Option ((Int32 × jH) ⊕ (jH)) :=
  fun (s : Int32 × jH) => fM_wedding_l40_b s.1 s.2
theorem kM_wedding_l40_b {X : jX} {dd : Nat} {p d : Nat} {q : Nat → Nat} {Q : Option Value → jS → Prop} {v1 : Int32} {h : jH}  (hd : 9 ≤ (dd + 1)) {z : (Int32 × jH) ⊕ (jH)} (K : fM_wedding_l40_b v1 h = some z) (HL : ∀ s : Int32 × jH, z = .inl s → jEx X (dd + 1) jc_189 40 [some (.ref 110), some (.int s.1)] [] (176, jRf p d q, s.2) Q) (HE0 : ∀ x : jH, z = .inr x → jEx X (dd + 1) jc_189 58 [some (.ref 110), none] [] (176, jRf p d q, x) Q) :
    jEx X (dd + 1) jc_189 40 [some (.ref 110), some (.int v1)] [] (176, jRf p d q, h) Q := by
  unfold fM_wedding_l40_b at K
  refine jx_next (pc := 40) (pc' := 41) rfl rfl ?_
  refine jx_next (pc := 41) (pc' := 42) rfl rfl ?_
  refine jx_icge (pc := 42) rfl (fun hc1 => ?_) (fun hc1 => ?_)
  · replace K := (if_pos hc1).symm.trans K
    refine jx_next (pc := 45) (pc' := 46) rfl rfl ?_
    refine jx_getr2 (pc := 46) rfl jko_110 jr_12_36 ?_
    refine jx_next (pc := 49) (pc' := 50) rfl rfl ?_
    refine jx_next (pc := 50) (pc' := 51) rfl rfl ?_
    obtain ⟨hg2, K⟩ := jguard K
    refine jx_iast2 (pc := 51) rfl jko_138 jno_138 hg2 ?_
    refine jx_inc (pc := 52) (x := v1) (p2 := [some (.ref 110), some (.int (v1 + 1))]) rfl rfl (jlt rfl) rfl ?_
    refine jx_next (pc := 55) (pc' := 40) rfl rfl ?_
    obtain rfl := Option.some.inj K
    refine jx_le (pl' := [some (.ref 110), some (.int (v1 + 1))]) (jle_v (jle_v jle_nil)) ?_
    exact HL (v1 + 1, jhI h 138 v1.toNatClampNeg 0) rfl
  · replace K := (if_neg hc1).symm.trans K
    obtain rfl := Option.some.inj K
    refine jx_le (pl' := [some (.ref 110), none]) (jle_v (jle_n jle_nil)) ?_
    exact HE0 _ rfl
theorem kM_wedding_l40_w {X : jX} {dd : Nat} {p d : Nat} {q : Nat → Nat} {Q : Option Value → jS → Prop}   (hd : 9 ≤ (dd + 1)) {s : Int32 × jH} {x : jH} (K : jlim (fM_wedding_l40 ) s = some x) (HE : jEx X (dd + 1) jc_189 58 [some (.ref 110), none] [] (176, jRf p d q, x) Q) :
    jEx X (dd + 1) jc_189 40 [some (.ref 110), some (.int s.1)] [] (176, jRf p d q, s.2) Q := by
  refine jlim_ok (G := fun s : Int32 × jH => jEx X (dd + 1) jc_189 40 [some (.ref 110), some (.int s.1)] [] (176, jRf p d q, s.2) Q) (GX := fun x : jH => jEx X (dd + 1) jc_189 58 [some (.ref 110), none] [] (176, jRf p d q, x) Q) (fun s z hz HL HE => ?_) K HE
  exact kM_wedding_l40_b  hd hz HL HE
noncomputable def fM_wedding_l60_b (v1 : Int32) (h : jH) : Option ((Int32 × jH) ⊕ (jH)) :=
  (if v1 < 8 then
  (if jin v1 16 then
  (if jin v1 16 then
  some (.inl (v1 + 1, jhI (jhI h 142 v1.toNatClampNeg 0) 143 v1.toNatClampNeg 0))
  else none)
  else none)
  else
  some (.inr h))
noncomputable def fM_wedding_l60  : (Int32 × jH) → Option ((Int32 × jH) ⊕ (jH)) :=
  fun (s : Int32 × jH) => fM_wedding_l60_b s.1 s.2
theorem kM_wedding_l60_b {X : jX} {dd : Nat} {p d : Nat} {q : Nat → Nat} {Q : Option Value → jS → Prop} {v1 : Int32} {h : jH}  (hd : 9 ≤ (dd + 1)) {z : (Int32 × jH) ⊕ (jH)} (K : fM_wedding_l60_b v1 h = some z) (HL : ∀ s : Int32 × jH, z = .inl s → jEx X (dd + 1) jc_189 60 [some (.ref 110), some (.int s.1)] [] (176, jRf p d q, s.2) Q) (HE0 : ∀ x : jH, z = .inr x → jEx X (dd + 1) jc_189 86 [some (.ref 110), none] [] (176, jRf p d q, x) Q) :
    jEx X (dd + 1) jc_189 60 [some (.ref 110), some (.int v1)] [] (176, jRf p d q, h) Q := by
  unfold fM_wedding_l60_b at K
  refine jx_next (pc := 60) (pc' := 61) rfl rfl ?_
  refine jx_next (pc := 61) (pc' := 63) rfl rfl ?_
  refine jx_icge (pc := 63) rfl (fun hc4 => ?_) (fun hc4 => ?_)
  · replace K := (if_pos hc4).symm.trans K
    refine jx_next (pc := 66) (pc' := 67) rfl rfl ?_
    refine jx_getr2 (pc := 67) rfl jko_110 jr_12_40 ?_
    refine jx_next (pc := 70) (pc' := 71) rfl rfl ?_
    refine jx_next (pc := 71) (pc' := 72) rfl rfl ?_
    obtain ⟨hg5, K⟩ := jguard K
    refine jx_iast2 (pc := 72) rfl jko_142 jno_142 hg5 ?_
    refine jx_next (pc := 73) (pc' := 74) rfl rfl ?_
    refine jx_getr2 (pc := 74) rfl jko_110 jr_12_41 ?_
    refine jx_next (pc := 77) (pc' := 78) rfl rfl ?_
    refine jx_next (pc := 78) (pc' := 79) rfl rfl ?_
    obtain ⟨hg6, K⟩ := jguard K
    refine jx_iast2 (pc := 79) rfl jko_143 jno_143 hg6 ?_
    refine jx_inc (pc := 80) (x := v1) (p2 := [some (.ref 110), some (.int (v1 + 1))]) rfl rfl (jlt rfl) rfl ?_
    refine jx_next (pc := 83) (pc' := 60) rfl rfl ?_
    obtain rfl := Option.some.inj K
    refine jx_le (pl' := [some (.ref 110), some (.int (v1 + 1))]) (jle_v (jle_v jle_nil)) ?_
    exact HL (v1 + 1, jhI (jhI h 142 v1.toNatClampNeg 0) 143 v1.toNatClampNeg 0) rfl
  · replace K := (if_neg hc4).symm.trans K
    obtain rfl := Option.some.inj K
    refine jx_le (pl' := [some (.ref 110), none]) (jle_v (jle_n jle_nil)) ?_
    exact HE0 _ rfl
theorem kM_wedding_l60_w {X : jX} {dd : Nat} {p d : Nat} {q : Nat → Nat} {Q : Option Value → jS → Prop}   (hd : 9 ≤ (dd + 1)) {s : Int32 × jH} {x : jH} (K : jlim (fM_wedding_l60 ) s = some x) (HE : jEx X (dd + 1) jc_189 86 [some (.ref 110), none] [] (176, jRf p d q, x) Q) :
    jEx X (dd + 1) jc_189 60 [some (.ref 110), some (.int s.1)] [] (176, jRf p d q, s.2) Q := by
  refine jlim_ok (G := fun s : Int32 × jH => jEx X (dd + 1) jc_189 60 [some (.ref 110), some (.int s.1)] [] (176, jRf p d q, s.2) Q) (GX := fun x : jH => jEx X (dd + 1) jc_189 86 [some (.ref 110), none] [] (176, jRf p d q, x) Q) (fun s z hz HL HE => ?_) K HE
  exact kM_wedding_l60_b  hd hz HL HE
noncomputable def fM_wedding_l124_b  (h : jH) : Option ((jH) ⊕ (jH)) :=
  (if (h.1 110 5) = 0 then
  (Option.bind (fM_look h) (fun (z14 : Int32 × jH) =>
  (if z14.1 = (-1) then
  some (.inr z14.2)
  else
  (Option.bind (fM_statementTold z14.2) (fun (z16 : jH) =>
  some (.inl z16))))))
  else
  some (.inr h))
noncomputable def fM_wedding_l124  : jH → Option ((jH) ⊕ (jH)) :=
  fun (s : jH) => fM_wedding_l124_b  s
theorem kM_wedding_l124_b {X : jX} {dd : Nat} {p d : Nat} {q : Nat → Nat} {Q : Option Value → jS → Prop}  {h : jH}  (hd : 9 ≤ (dd + 1)) {z : (jH) ⊕ (jH)} (K : fM_wedding_l124_b  h = some z) (HL : ∀ s : jH, z = .inl s → jEx X (dd + 1) jc_189 124 [some (.ref 110), none] [] (176, jRf p d q, s) Q) (HE0 : ∀ x : jH, z = .inr x → jEx X (dd + 1) jc_189 146 [some (.ref 110), none] [] (176, jRf p d q, x) Q) :
    jEx X (dd + 1) jc_189 124 [some (.ref 110), none] [] (176, jRf p d q, h) Q := by
  unfold fM_wedding_l124_b at K
  refine jx_next (pc := 124) (pc' := 125) rfl rfl ?_
  refine jx_geti (pc := 125) rfl jko_110 ?_
  refine jx_ifne (pc := 128) rfl (fun hc13 => ?_) (fun hc13 => ?_)
  · replace K := (if_pos hc13).symm.trans K
    refine jx_next (pc := 131) (pc' := 132) rfl rfl ?_
    refine jx_callv (pc := 132) (o := 110) (rest := []) rfl ⟨by decide, by decide⟩ rfl jko_110 (Nat.le_of_ble_eq_true rfl) ?_
    obtain ⟨z14, hz_z14, K⟩ := Option.bind_eq_some_iff.mp K
    refine kM_look  (by omega) hz_z14 ?_
    refine jx_next (pc := 135) (pc' := 136) rfl rfl ?_
    refine jx_iceq (pc := 136) rfl (fun hc15 => ?_) (fun hc15 => ?_)
    · replace K := (if_pos hc15).symm.trans K
      obtain rfl := Option.some.inj K
      refine jx_le (pl' := [some (.ref 110), none]) (jle_v (jle_n jle_nil)) ?_
      exact HE0 _ rfl
    · replace K := (if_neg hc15).symm.trans K
      refine jx_next (pc := 139) (pc' := 140) rfl rfl ?_
      refine jx_callv (pc := 140) (o := 110) (rest := []) rfl ⟨by decide, by decide⟩ rfl jko_110 (Nat.le_of_ble_eq_true rfl) ?_
      obtain ⟨z16, hz_z16, K⟩ := Option.bind_eq_some_iff.mp K
      refine kM_statementTold  (by omega) hz_z16 ?_
      refine jx_next (pc := 143) (pc' := 124) rfl rfl ?_
      obtain rfl := Option.some.inj K
      refine jx_le (pl' := [some (.ref 110), none]) (jle_v (jle_n jle_nil)) ?_
      exact HL z16 rfl
  · replace K := (if_neg hc13).symm.trans K
    obtain rfl := Option.some.inj K
    refine jx_le (pl' := [some (.ref 110), none]) (jle_v (jle_n jle_nil)) ?_
    exact HE0 _ rfl
theorem kM_wedding_l124_w {X : jX} {dd : Nat} {p d : Nat} {q : Nat → Nat} {Q : Option Value → jS → Prop}   (hd : 9 ≤ (dd + 1)) {s : jH} {x : jH} (K : jlim (fM_wedding_l124 ) s = some x) (HE : jEx X (dd + 1) jc_189 146 [some (.ref 110), none] [] (176, jRf p d q, x) Q) :
    jEx X (dd + 1) jc_189 124 [some (.ref 110), none] [] (176, jRf p d q, s) Q := by
  refine jlim_ok (G := fun s : jH => jEx X (dd + 1) jc_189 124 [some (.ref 110), none] [] (176, jRf p d q, s) Q) (GX := fun x : jH => jEx X (dd + 1) jc_189 146 [some (.ref 110), none] [] (176, jRf p d q, x) Q) (fun s z hz HL HE => ?_) K HE
  exact kM_wedding_l124_b  hd hz HL HE
/-- AndGuestModel.wedding()I -/
noncomputable def fM_wedding  (h : jH) : Option (Int32 × jH) :=
  (Option.bind (jlim (fM_wedding_l40 ) (0, jhI (jhI (jhI (jhI (jhI (jhI (jhI h 110 3 (h.1 110 1)) 110 1 0) 110 2 0) 110 4 (-1)) 110 5 0) 110 6 (-1)) 110 46 0)) (fun (x3 : jH) =>
  (Option.bind (jlim (fM_wedding_l60 ) (0, x3)) (fun (x7 : jH) =>
  (if jin 0 6 then
  (if jin 1 6 then
  (if jin 2 6 then
  (if jin 0 2 then
  (Option.bind (fM_weddingTold (jhI (jhI (jhI (jhI x7 144 (0 : Int32).toNatClampNeg 5) 144 (1 : Int32).toNatClampNeg 50) 144 (2 : Int32).toNatClampNeg 2) 145 (0 : Int32).toNatClampNeg (-1))) (fun (z12 : jH) =>
  (Option.bind (jlim (fM_wedding_l124 ) (jhI z12 110 47 1)) (fun (x17 : jH) =>
  (if ((jhI (jhI x17 110 7 (x17.1 110 5)) 110 8 ((jhI x17 110 7 (x17.1 110 5)).1 110 6)).1 110 5) = 0 then
  (Option.bind (fM_stands (jhI (jhI x17 110 7 (x17.1 110 5)) 110 8 ((jhI x17 110 7 (x17.1 110 5)).1 110 6))) (fun (z19 : jH) =>
  some (z19.1 110 47, z19)))
  else
  (if jin 1 6 then
  (if jin 1 6 then
  some ((-1), jhI (jhI (jhI x17 110 7 (x17.1 110 5)) 110 8 ((jhI x17 110 7 (x17.1 110 5)).1 110 6)) 112 (1 : Int32).toNatClampNeg (((jhI (jhI x17 110 7 (x17.1 110 5)) 110 8 ((jhI x17 110 7 (x17.1 110 5)).1 110 6)).1 112 (1 : Int32).toNatClampNeg) + 1))
  else none)
  else none))))))
  else none)
  else none)
  else none)
  else none)))))
theorem kM_wedding {X : jX} {dd : Nat} {p d : Nat} {q : Nat → Nat} {Q : Option Value → jS → Prop}  {h : jH}  (hd : 9 ≤ dd) {z : Int32 × jH} (K : fM_wedding  h = some z) (HQ : Q (some (.int z.1)) (176, jRf p d q, z.2)) :
    jCa X dd 189 [.ref 110] (176, jRf p d q, h) Q := by
  obtain ⟨dd, rfl⟩ : ∃ d9, dd = d9 + 1 := ⟨dd - 1, by omega⟩
  unfold fM_wedding at K
  refine jCa_of (es := jc_189) (pl := [some (.ref 110), none]) (M := jm_189) rfl rfl rfl rfl ?_
  refine jx_next (pc := 0) (pc' := 1) rfl rfl ?_
  refine jx_next (pc := 1) (pc' := 2) rfl rfl ?_
  refine jx_geti (pc := 2) rfl jko_110 ?_
  refine jx_puti (pc := 5) rfl jko_110 ?_
  refine jx_next (pc := 8) (pc' := 9) rfl rfl ?_
  refine jx_next (pc := 9) (pc' := 10) rfl rfl ?_
  refine jx_puti (pc := 10) rfl jko_110 ?_
  refine jx_next (pc := 13) (pc' := 14) rfl rfl ?_
  refine jx_next (pc := 14) (pc' := 15) rfl rfl ?_
  refine jx_puti (pc := 15) rfl jko_110 ?_
  refine jx_next (pc := 18) (pc' := 19) rfl rfl ?_
  refine jx_next (pc := 19) (pc' := 20) rfl rfl ?_
  refine jx_puti (pc := 20) rfl jko_110 ?_
  refine jx_next (pc := 23) (pc' := 24) rfl rfl ?_
  refine jx_next (pc := 24) (pc' := 25) rfl rfl ?_
  refine jx_puti (pc := 25) rfl jko_110 ?_
  refine jx_next (pc := 28) (pc' := 29) rfl rfl ?_
  refine jx_next (pc := 29) (pc' := 30) rfl rfl ?_
  refine jx_puti (pc := 30) rfl jko_110 ?_
  refine jx_next (pc := 33) (pc' := 34) rfl rfl ?_
  refine jx_next (pc := 34) (pc' := 35) rfl rfl ?_
  refine jx_puti (pc := 35) rfl jko_110 ?_
  refine jx_next (pc := 38) (pc' := 39) rfl rfl ?_
  refine jx_stin (pc := 39) (p2 := [some (.ref 110), some (.int 0)]) rfl (jlt rfl) rfl ?_
  refine jx_le (pl' := [some (.ref 110), some (.int 0)]) (jle_v (jle_v jle_nil)) ?_
  obtain ⟨x3, hz_x3, K⟩ := Option.bind_eq_some_iff.mp K
  refine kM_wedding_l40_w  hd hz_x3 ?_
  refine jx_next (pc := 58) (pc' := 59) rfl rfl ?_
  refine jx_stin (pc := 59) (p2 := [some (.ref 110), some (.int 0)]) rfl (jlt rfl) rfl ?_
  refine jx_le (pl' := [some (.ref 110), some (.int 0)]) (jle_v (jle_v jle_nil)) ?_
  obtain ⟨x7, hz_x7, K⟩ := Option.bind_eq_some_iff.mp K
  refine kM_wedding_l60_w  hd hz_x7 ?_
  refine jx_next (pc := 86) (pc' := 87) rfl rfl ?_
  refine jx_getr2 (pc := 87) rfl jko_110 jr_12_42 ?_
  refine jx_next (pc := 90) (pc' := 91) rfl rfl ?_
  refine jx_next (pc := 91) (pc' := 92) rfl rfl ?_
  obtain ⟨hg8, K⟩ := jguard K
  refine jx_iast2 (pc := 92) rfl jko_144 jno_144 hg8 ?_
  refine jx_next (pc := 93) (pc' := 94) rfl rfl ?_
  refine jx_getr2 (pc := 94) rfl jko_110 jr_12_42 ?_
  refine jx_next (pc := 97) (pc' := 98) rfl rfl ?_
  refine jx_next (pc := 98) (pc' := 100) rfl rfl ?_
  obtain ⟨hg9, K⟩ := jguard K
  refine jx_iast2 (pc := 100) rfl jko_144 jno_144 hg9 ?_
  refine jx_next (pc := 101) (pc' := 102) rfl rfl ?_
  refine jx_getr2 (pc := 102) rfl jko_110 jr_12_42 ?_
  refine jx_next (pc := 105) (pc' := 106) rfl rfl ?_
  refine jx_next (pc := 106) (pc' := 107) rfl rfl ?_
  obtain ⟨hg10, K⟩ := jguard K
  refine jx_iast2 (pc := 107) rfl jko_144 jno_144 hg10 ?_
  refine jx_next (pc := 108) (pc' := 109) rfl rfl ?_
  refine jx_getr2 (pc := 109) rfl jko_110 jr_12_43 ?_
  refine jx_next (pc := 112) (pc' := 113) rfl rfl ?_
  refine jx_next (pc := 113) (pc' := 114) rfl rfl ?_
  obtain ⟨hg11, K⟩ := jguard K
  refine jx_iast2 (pc := 114) rfl jko_145 jno_145 hg11 ?_
  refine jx_next (pc := 115) (pc' := 116) rfl rfl ?_
  refine jx_callv (pc := 116) (o := 110) (rest := []) rfl ⟨by decide, by decide⟩ rfl jko_110 (Nat.le_of_ble_eq_true rfl) ?_
  obtain ⟨z12, hz_z12, K⟩ := Option.bind_eq_some_iff.mp K
  refine kM_weddingTold  (by omega) hz_z12 ?_
  refine jx_next (pc := 119) (pc' := 120) rfl rfl ?_
  refine jx_next (pc := 120) (pc' := 121) rfl rfl ?_
  refine jx_puti (pc := 121) rfl jko_110 ?_
  refine jx_le (pl' := [some (.ref 110), none]) (jle_v (jle_n jle_nil)) ?_
  obtain ⟨x17, hz_x17, K⟩ := Option.bind_eq_some_iff.mp K
  refine kM_wedding_l124_w  hd hz_x17 ?_
  refine jx_next (pc := 146) (pc' := 147) rfl rfl ?_
  refine jx_next (pc := 147) (pc' := 148) rfl rfl ?_
  refine jx_geti (pc := 148) rfl jko_110 ?_
  refine jx_puti (pc := 151) rfl jko_110 ?_
  refine jx_next (pc := 154) (pc' := 155) rfl rfl ?_
  refine jx_next (pc := 155) (pc' := 156) rfl rfl ?_
  refine jx_geti (pc := 156) rfl jko_110 ?_
  refine jx_puti (pc := 159) rfl jko_110 ?_
  refine jx_next (pc := 162) (pc' := 163) rfl rfl ?_
  refine jx_geti (pc := 163) rfl jko_110 ?_
  refine jx_ifeq (pc := 166) rfl (fun hc18 => ?_) (fun hc18 => ?_)
  · replace K := (if_pos hc18).symm.trans K
    refine jx_next (pc := 181) (pc' := 182) rfl rfl ?_
    refine jx_callv (pc := 182) (o := 110) (rest := []) rfl ⟨by decide, by decide⟩ rfl jko_110 (Nat.le_of_ble_eq_true rfl) ?_
    obtain ⟨z19, hz_z19, K⟩ := Option.bind_eq_some_iff.mp K
    refine kM_stands  (by omega) hz_z19 ?_
    refine jx_next (pc := 185) (pc' := 186) rfl rfl ?_
    refine jx_geti (pc := 186) rfl jko_110 ?_
    obtain rfl := Option.some.inj K
    exact jx_iret (pc := 189) rfl HQ
  · replace K := (if_neg hc18).symm.trans K
    refine jx_next (pc := 169) (pc' := 170) rfl rfl ?_
    refine jx_getr2 (pc := 170) rfl jko_110 jr_12_9 ?_
    refine jx_next (pc := 173) (pc' := 174) rfl rfl ?_
    refine jx_next (pc := 174) (pc' := 175) rfl rfl ?_
    obtain ⟨hg20, K⟩ := jguard K
    refine jx_iald2 (pc := 175) rfl jko_112 jno_112 hg20 ?_
    refine jx_next (pc := 176) (pc' := 177) rfl rfl ?_
    refine jx_next (pc := 177) (pc' := 178) rfl rfl ?_
    obtain ⟨hg21, K⟩ := jguard K
    refine jx_iast2 (pc := 178) rfl jko_112 jno_112 hg21 ?_
    refine jx_next (pc := 179) (pc' := 180) rfl rfl ?_
    obtain rfl := Option.some.inj K
    exact jx_iret (pc := 180) rfl HQ
/-- AndGuestModel.fault(I)I -/
noncomputable def fM_fault (v1 : Int32) (h : jH) : Int32 :=
  (if v1 = 0 then
  (h.1 110 7 : Int32)
  else
  (if v1 = 1 then
  (h.1 110 8 : Int32)
  else
  ((-1) : Int32)))
theorem kM_fault {X : jX} {dd : Nat} {p d : Nat} {q : Nat → Nat} {Q : Option Value → jS → Prop} {v1 : Int32} {h : jH}  (hd : 0 ≤ dd) {z : Int32} (K : fM_fault v1 h = z) (HQ : Q (some (.int z)) (176, jRf p d q, h)) :
    jCa X dd 228 [.ref 110, .int v1] (176, jRf p d q, h) Q := by
  unfold fM_fault at K
  refine jCa_of (es := jc_228) (pl := [some (.ref 110), some (.int v1)]) (M := jm_228) rfl rfl rfl rfl ?_
  refine jx_next (pc := 0) (pc' := 1) rfl rfl ?_
  refine jx_ifne (pc := 1) rfl (fun hc1 => ?_) (fun hc1 => ?_)
  · replace K := (if_pos hc1).symm.trans K
    refine jx_next (pc := 4) (pc' := 5) rfl rfl ?_
    refine jx_geti (pc := 5) rfl jko_110 ?_
    refine jx_next (pc := 8) (pc' := 24) rfl rfl ?_
    obtain rfl := K
    exact jx_iret (pc := 24) rfl HQ
  · replace K := (if_neg hc1).symm.trans K
    refine jx_next (pc := 11) (pc' := 12) rfl rfl ?_
    refine jx_next (pc := 12) (pc' := 13) rfl rfl ?_
    refine jx_icne (pc := 13) rfl (fun hc2 => ?_) (fun hc2 => ?_)
    · replace K := (if_pos hc2).symm.trans K
      refine jx_next (pc := 16) (pc' := 17) rfl rfl ?_
      refine jx_geti (pc := 17) rfl jko_110 ?_
      refine jx_next (pc := 20) (pc' := 24) rfl rfl ?_
      obtain rfl := K
      exact jx_iret (pc := 24) rfl HQ
    · replace K := (if_neg hc2).symm.trans K
      refine jx_next (pc := 23) (pc' := 24) rfl rfl ?_
      obtain rfl := K
      exact jx_iret (pc := 24) rfl HQ
/-- AndGuestModel.guestMany()I -/
noncomputable def fM_guestMany  (h : jH) : Option Int32 :=
  (if jin 3 6 then
  some (h.1 138 (3 : Int32).toNatClampNeg : Int32)
  else none)
theorem kM_guestMany {X : jX} {dd : Nat} {p d : Nat} {q : Nat → Nat} {Q : Option Value → jS → Prop}  {h : jH}  (hd : 0 ≤ dd) {z : Int32} (K : fM_guestMany  h = some z) (HQ : Q (some (.int z)) (176, jRf p d q, h)) :
    jCa X dd 231 [.ref 110] (176, jRf p d q, h) Q := by
  unfold fM_guestMany at K
  refine jCa_of (es := jc_231) (pl := [some (.ref 110)]) (M := jm_231) rfl rfl rfl rfl ?_
  refine jx_next (pc := 0) (pc' := 1) rfl rfl ?_
  refine jx_getr2 (pc := 1) rfl jko_110 jr_12_36 ?_
  refine jx_next (pc := 4) (pc' := 5) rfl rfl ?_
  obtain ⟨hg1, K⟩ := jguard K
  refine jx_iald2 (pc := 5) rfl jko_138 jno_138 hg1 ?_
  obtain rfl := Option.some.inj K
  exact jx_iret (pc := 6) rfl HQ
/-- AndGuestModel.howOf(I)I -/
noncomputable def fM_howOf (v1 : Int32) (h : jH) : Option Int32 :=
  (if jin (2 + (2 * v1)) 18 then
  some (h.1 148 (2 + (2 * v1)).toNatClampNeg : Int32)
  else none)
theorem kM_howOf {X : jX} {dd : Nat} {p d : Nat} {q : Nat → Nat} {Q : Option Value → jS → Prop} {v1 : Int32} {h : jH}  (hd : 0 ≤ dd) {z : Int32} (K : fM_howOf v1 h = some z) (HQ : Q (some (.int z)) (176, jRf p d q, h)) :
    jCa X dd 234 [.ref 110, .int v1] (176, jRf p d q, h) Q := by
  unfold fM_howOf at K
  refine jCa_of (es := jc_234) (pl := [some (.ref 110), some (.int v1)]) (M := jm_234) rfl rfl rfl rfl ?_
  refine jx_next (pc := 0) (pc' := 1) rfl rfl ?_
  refine jx_getr2 (pc := 1) rfl jko_110 jr_12_50 ?_
  refine jx_next (pc := 4) (pc' := 5) rfl rfl ?_
  refine jx_next (pc := 5) (pc' := 6) rfl rfl ?_
  refine jx_next (pc := 6) (pc' := 7) rfl rfl ?_
  refine jx_next (pc := 7) (pc' := 8) rfl rfl ?_
  refine jx_next (pc := 8) (pc' := 9) rfl rfl ?_
  obtain ⟨hg1, K⟩ := jguard K
  refine jx_iald2 (pc := 9) rfl jko_148 jno_148 hg1 ?_
  obtain rfl := Option.some.inj K
  exact jx_iret (pc := 10) rfl HQ
/-- AndGuestModel.isAsked(I)Z -/
noncomputable def fM_isAsked (v1 : Int32) (h : jH) : Option Int32 :=
  (Option.bind (fM_howOf v1 h) (fun (z1 : Int32) =>
  (if z1 = 0 then
  some (0 : Int32)
  else
  some (1 : Int32))))
theorem kM_isAsked {X : jX} {dd : Nat} {p d : Nat} {q : Nat → Nat} {Q : Option Value → jS → Prop} {v1 : Int32} {h : jH}  (hd : 1 ≤ dd) {z : Int32} (K : fM_isAsked v1 h = some z) (HQ : Q (some (.int z)) (176, jRf p d q, h)) :
    jCa X dd 233 [.ref 110, .int v1] (176, jRf p d q, h) Q := by
  obtain ⟨dd, rfl⟩ : ∃ d9, dd = d9 + 1 := ⟨dd - 1, by omega⟩
  unfold fM_isAsked at K
  refine jCa_of (es := jc_233) (pl := [some (.ref 110), some (.int v1)]) (M := jm_233) rfl rfl rfl rfl ?_
  refine jx_next (pc := 0) (pc' := 1) rfl rfl ?_
  refine jx_next (pc := 1) (pc' := 2) rfl rfl ?_
  refine jx_callv (pc := 2) (o := 110) (rest := []) rfl ⟨by decide, by decide⟩ rfl jko_110 (Nat.le_of_ble_eq_true rfl) ?_
  obtain ⟨z1, hz_z1, K⟩ := Option.bind_eq_some_iff.mp K
  refine kM_howOf  (by omega) hz_z1 ?_
  refine jx_ifeq (pc := 5) rfl (fun hc2 => ?_) (fun hc2 => ?_)
  · replace K := (if_pos hc2).symm.trans K
    refine jx_next (pc := 12) (pc' := 13) rfl rfl ?_
    obtain rfl := Option.some.inj K
    exact jx_zret (pc := 13) rfl (Or.inl rfl) HQ
  · replace K := (if_neg hc2).symm.trans K
    refine jx_next (pc := 8) (pc' := 9) rfl rfl ?_
    refine jx_next (pc := 9) (pc' := 13) rfl rfl ?_
    obtain rfl := Option.some.inj K
    exact jx_zret (pc := 13) rfl (Or.inr rfl) HQ
noncomputable def fM_askedSet_l4_j26 (v1 : Int32) (v2 : Int32) (h : jH) : Option ((Int32 × Int32) ⊕ (Int32)) :=
  some (.inl (v1, v2 + 1))
theorem kM_askedSet_l4_j26 {X : jX} {dd : Nat} {p d : Nat} {q : Nat → Nat} {Q : Option Value → jS → Prop} {v1 : Int32} {v2 : Int32} {h : jH}  (hd : 2 ≤ (dd + 1)) {z : (Int32 × Int32) ⊕ (Int32)} (K : fM_askedSet_l4_j26 v1 v2 h = some z) (HL : ∀ s : Int32 × Int32, z = .inl s → jEx X (dd + 1) jc_232 4 [some (.ref 110), some (.int s.1), some (.int s.2)] [] (176, jRf p d q, h) Q) (HE0 : ∀ x : Int32, z = .inr x → jEx X (dd + 1) jc_232 32 [none, some (.int x), none] [] (176, jRf p d q, h) Q) :
    jEx X (dd + 1) jc_232 26 [some (.ref 110), some (.int v1), some (.int v2)] [] (176, jRf p d q, h) Q := by
  unfold fM_askedSet_l4_j26 at K
  refine jx_inc (pc := 26) (x := v2) (p2 := [some (.ref 110), some (.int v1), some (.int (v2 + 1))]) rfl rfl (jlt rfl) rfl ?_
  refine jx_next (pc := 29) (pc' := 4) rfl rfl ?_
  obtain rfl := Option.some.inj K
  refine jx_le (pl' := [some (.ref 110), some (.int v1), some (.int (v2 + 1))]) (jle_v (jle_v (jle_v jle_nil))) ?_
  exact HL (v1, v2 + 1) rfl
noncomputable def fM_askedSet_l4_b (v1 : Int32) (v2 : Int32) (h : jH) : Option ((Int32 × Int32) ⊕ (Int32)) :=
  (Option.bind (fM_guestMany h) (fun (z1 : Int32) =>
  (if v2 < z1 then
  (Option.bind (fM_isAsked v2 h) (fun (z3 : Int32) =>
  (if z3 = 0 then
  fM_askedSet_l4_j26  v1 v2 h
  else
  fM_askedSet_l4_j26  (v1 ||| (1 <<< (v2 &&& 31))) v2 h)))
  else
  some (.inr v1))))
noncomputable def fM_askedSet_l4  (h : jH) : (Int32 × Int32) → Option ((Int32 × Int32) ⊕ (Int32)) :=
  fun (s : Int32 × Int32) => fM_askedSet_l4_b s.1 s.2 h
theorem kM_askedSet_l4_b {X : jX} {dd : Nat} {p d : Nat} {q : Nat → Nat} {Q : Option Value → jS → Prop} {v1 : Int32} {v2 : Int32} {h : jH}  (hd : 2 ≤ (dd + 1)) {z : (Int32 × Int32) ⊕ (Int32)} (K : fM_askedSet_l4_b v1 v2 h = some z) (HL : ∀ s : Int32 × Int32, z = .inl s → jEx X (dd + 1) jc_232 4 [some (.ref 110), some (.int s.1), some (.int s.2)] [] (176, jRf p d q, h) Q) (HE0 : ∀ x : Int32, z = .inr x → jEx X (dd + 1) jc_232 32 [none, some (.int x), none] [] (176, jRf p d q, h) Q) :
    jEx X (dd + 1) jc_232 4 [some (.ref 110), some (.int v1), some (.int v2)] [] (176, jRf p d q, h) Q := by
  unfold fM_askedSet_l4_b at K
  refine jx_next (pc := 4) (pc' := 5) rfl rfl ?_
  refine jx_next (pc := 5) (pc' := 6) rfl rfl ?_
  refine jx_callv (pc := 6) (o := 110) (rest := [.int v2]) rfl ⟨by decide, by decide⟩ rfl jko_110 (Nat.le_of_ble_eq_true rfl) ?_
  obtain ⟨z1, hz_z1, K⟩ := Option.bind_eq_some_iff.mp K
  refine kM_guestMany  (by omega) hz_z1 ?_
  refine jx_icge (pc := 9) rfl (fun hc2 => ?_) (fun hc2 => ?_)
  · replace K := (if_pos hc2).symm.trans K
    refine jx_next (pc := 12) (pc' := 13) rfl rfl ?_
    refine jx_next (pc := 13) (pc' := 14) rfl rfl ?_
    refine jx_callv (pc := 14) (o := 110) (rest := []) rfl ⟨by decide, by decide⟩ rfl jko_110 (Nat.le_of_ble_eq_true rfl) ?_
    obtain ⟨z3, hz_z3, K⟩ := Option.bind_eq_some_iff.mp K
    refine kM_isAsked  (by omega) hz_z3 ?_
    refine jx_ifeq (pc := 17) rfl (fun hc4 => ?_) (fun hc4 => ?_)
    · replace K := (if_pos hc4).symm.trans K
      refine jx_le (pl' := [some (.ref 110), some (.int v1), some (.int v2)]) (jle_v (jle_v (jle_v jle_nil))) ?_
      exact kM_askedSet_l4_j26  hd K HL HE0
    · replace K := (if_neg hc4).symm.trans K
      refine jx_next (pc := 20) (pc' := 21) rfl rfl ?_
      refine jx_next (pc := 21) (pc' := 22) rfl rfl ?_
      refine jx_next (pc := 22) (pc' := 23) rfl rfl ?_
      refine jx_next (pc := 23) (pc' := 24) rfl rfl ?_
      refine jx_next (pc := 24) (pc' := 25) rfl rfl ?_
      refine jx_stin (pc := 25) (p2 := [some (.ref 110), some (.int (v1 ||| (1 <<< (v2 &&& 31)))), some (.int v2)]) rfl (jlt rfl) rfl ?_
      refine jx_le (pl' := [some (.ref 110), some (.int (v1 ||| (1 <<< (v2 &&& 31)))), some (.int v2)]) (jle_v (jle_v (jle_v jle_nil))) ?_
      exact kM_askedSet_l4_j26  hd K HL HE0
  · replace K := (if_neg hc2).symm.trans K
    obtain rfl := Option.some.inj K
    refine jx_le (pl' := [none, some (.int v1), none]) (jle_n (jle_v (jle_n jle_nil))) ?_
    exact HE0 _ rfl
theorem kM_askedSet_l4_w {X : jX} {dd : Nat} {p d : Nat} {q : Nat → Nat} {Q : Option Value → jS → Prop}  {h : jH}  (hd : 2 ≤ (dd + 1)) {s : Int32 × Int32} {x : Int32} (K : jlim (fM_askedSet_l4  h) s = some x) (HE : jEx X (dd + 1) jc_232 32 [none, some (.int x), none] [] (176, jRf p d q, h) Q) :
    jEx X (dd + 1) jc_232 4 [some (.ref 110), some (.int s.1), some (.int s.2)] [] (176, jRf p d q, h) Q := by
  refine jlim_ok (G := fun s : Int32 × Int32 => jEx X (dd + 1) jc_232 4 [some (.ref 110), some (.int s.1), some (.int s.2)] [] (176, jRf p d q, h) Q) (GX := fun x : Int32 => jEx X (dd + 1) jc_232 32 [none, some (.int x), none] [] (176, jRf p d q, h) Q) (fun s z hz HL HE => ?_) K HE
  exact kM_askedSet_l4_b  hd hz HL HE
/-- AndGuestModel.askedSet()I -/
noncomputable def fM_askedSet  (h : jH) : Option Int32 :=
  (Option.bind (jlim (fM_askedSet_l4  h) (0, 0)) (fun (x5 : Int32) =>
  some (x5 : Int32)))
theorem kM_askedSet {X : jX} {dd : Nat} {p d : Nat} {q : Nat → Nat} {Q : Option Value → jS → Prop}  {h : jH}  (hd : 2 ≤ dd) {z : Int32} (K : fM_askedSet  h = some z) (HQ : Q (some (.int z)) (176, jRf p d q, h)) :
    jCa X dd 232 [.ref 110] (176, jRf p d q, h) Q := by
  obtain ⟨dd, rfl⟩ : ∃ d9, dd = d9 + 1 := ⟨dd - 1, by omega⟩
  unfold fM_askedSet at K
  refine jCa_of (es := jc_232) (pl := [some (.ref 110), none, none]) (M := jm_232) rfl rfl rfl rfl ?_
  refine jx_next (pc := 0) (pc' := 1) rfl rfl ?_
  refine jx_stin (pc := 1) (p2 := [some (.ref 110), some (.int 0), none]) rfl (jlt rfl) rfl ?_
  refine jx_next (pc := 2) (pc' := 3) rfl rfl ?_
  refine jx_stin (pc := 3) (p2 := [some (.ref 110), some (.int 0), some (.int 0)]) rfl (jlt rfl) rfl ?_
  refine jx_le (pl' := [some (.ref 110), some (.int 0), some (.int 0)]) (jle_v (jle_v (jle_v jle_nil))) ?_
  obtain ⟨x5, hz_x5, K⟩ := Option.bind_eq_some_iff.mp K
  refine kM_askedSet_l4_w  hd hz_x5 ?_
  refine jx_next (pc := 32) (pc' := 33) rfl rfl ?_
  obtain rfl := Option.some.inj K
  exact jx_iret (pc := 33) rfl HQ
noncomputable def fM_bits_l4_b (v1 : Int32) (v2 : Int32) (h : jH) : Option ((Int32 × Int32) ⊕ (Int32)) :=
  (if v2 = 0 then
  some (.inr v1)
  else
  some (.inl (v1 + 1, v2 &&& (v2 - 1))))
noncomputable def fM_bits_l4  (h : jH) : (Int32 × Int32) → Option ((Int32 × Int32) ⊕ (Int32)) :=
  fun (s : Int32 × Int32) => fM_bits_l4_b s.1 s.2 h
theorem kM_bits_l4_b {X : jX} {dd : Nat} {p d : Nat} {q : Nat → Nat} {Q : Option Value → jS → Prop} {v1 : Int32} {v2 : Int32} {h : jH}  (hd : 0 ≤ dd) {z : (Int32 × Int32) ⊕ (Int32)} (K : fM_bits_l4_b v1 v2 h = some z) (HL : ∀ s : Int32 × Int32, z = .inl s → jEx X dd jc_235 4 [none, some (.int s.1), some (.int s.2)] [] (176, jRf p d q, h) Q) (HE0 : ∀ x : Int32, z = .inr x → jEx X dd jc_235 20 [none, some (.int x), none] [] (176, jRf p d q, h) Q) :
    jEx X dd jc_235 4 [none, some (.int v1), some (.int v2)] [] (176, jRf p d q, h) Q := by
  unfold fM_bits_l4_b at K
  refine jx_next (pc := 4) (pc' := 5) rfl rfl ?_
  refine jx_ifeq (pc := 5) rfl (fun hc1 => ?_) (fun hc1 => ?_)
  · replace K := (if_pos hc1).symm.trans K
    obtain rfl := Option.some.inj K
    refine jx_le (pl' := [none, some (.int v1), none]) (jle_n (jle_v (jle_n jle_nil))) ?_
    exact HE0 _ rfl
  · replace K := (if_neg hc1).symm.trans K
    refine jx_inc (pc := 8) (x := v1) (p2 := [none, some (.int (v1 + 1)), some (.int v2)]) rfl rfl (jlt rfl) rfl ?_
    refine jx_next (pc := 11) (pc' := 12) rfl rfl ?_
    refine jx_next (pc := 12) (pc' := 13) rfl rfl ?_
    refine jx_next (pc := 13) (pc' := 14) rfl rfl ?_
    refine jx_next (pc := 14) (pc' := 15) rfl rfl ?_
    refine jx_next (pc := 15) (pc' := 16) rfl rfl ?_
    refine jx_stin (pc := 16) (p2 := [none, some (.int (v1 + 1)), some (.int (v2 &&& (v2 - 1)))]) rfl (jlt rfl) rfl ?_
    refine jx_next (pc := 17) (pc' := 4) rfl rfl ?_
    obtain rfl := Option.some.inj K
    refine jx_le (pl' := [none, some (.int (v1 + 1)), some (.int (v2 &&& (v2 - 1)))]) (jle_n (jle_v (jle_v jle_nil))) ?_
    exact HL (v1 + 1, v2 &&& (v2 - 1)) rfl
theorem kM_bits_l4_w {X : jX} {dd : Nat} {p d : Nat} {q : Nat → Nat} {Q : Option Value → jS → Prop}  {h : jH}  (hd : 0 ≤ dd) {s : Int32 × Int32} {x : Int32} (K : jlim (fM_bits_l4  h) s = some x) (HE : jEx X dd jc_235 20 [none, some (.int x), none] [] (176, jRf p d q, h) Q) :
    jEx X dd jc_235 4 [none, some (.int s.1), some (.int s.2)] [] (176, jRf p d q, h) Q := by
  refine jlim_ok (G := fun s : Int32 × Int32 => jEx X dd jc_235 4 [none, some (.int s.1), some (.int s.2)] [] (176, jRf p d q, h) Q) (GX := fun x : Int32 => jEx X dd jc_235 20 [none, some (.int x), none] [] (176, jRf p d q, h) Q) (fun s z hz HL HE => ?_) K HE
  exact kM_bits_l4_b  hd hz HL HE
/-- AndGuestModel.bits(I)I -/
noncomputable def fM_bits (v0 : Int32) (h : jH) : Option Int32 :=
  (Option.bind (jlim (fM_bits_l4  h) (0, v0)) (fun (x2 : Int32) =>
  some (x2 : Int32)))
theorem kM_bits {X : jX} {dd : Nat} {p d : Nat} {q : Nat → Nat} {Q : Option Value → jS → Prop} {v0 : Int32} {h : jH}  (hd : 0 ≤ dd) {z : Int32} (K : fM_bits v0 h = some z) (HQ : Q (some (.int z)) (176, jRf p d q, h)) :
    jCa X dd 235 [.int v0] (176, jRf p d q, h) Q := by
  unfold fM_bits at K
  refine jCa_of (es := jc_235) (pl := [some (.int v0), none, none]) (M := jm_235) rfl rfl rfl rfl ?_
  refine jx_next (pc := 0) (pc' := 1) rfl rfl ?_
  refine jx_stin (pc := 1) (p2 := [some (.int v0), some (.int 0), none]) rfl (jlt rfl) rfl ?_
  refine jx_next (pc := 2) (pc' := 3) rfl rfl ?_
  refine jx_stin (pc := 3) (p2 := [some (.int v0), some (.int 0), some (.int v0)]) rfl (jlt rfl) rfl ?_
  refine jx_le (pl' := [none, some (.int 0), some (.int v0)]) (jle_n (jle_v (jle_v jle_nil))) ?_
  obtain ⟨x2, hz_x2, K⟩ := Option.bind_eq_some_iff.mp K
  refine kM_bits_l4_w  hd hz_x2 ?_
  refine jx_next (pc := 20) (pc' := 21) rfl rfl ?_
  obtain rfl := Option.some.inj K
  exact jx_iret (pc := 21) rfl HQ
noncomputable def fM_howMany_l4_j24 (v1 : Int32) (v2 : Int32) (v3 : Int32) (h : jH) : Option ((Int32 × Int32) ⊕ (Int32)) :=
  some (.inl (v2, v3 + 1))
theorem kM_howMany_l4_j24 {X : jX} {dd : Nat} {p d : Nat} {q : Nat → Nat} {Q : Option Value → jS → Prop} {v1 : Int32} {v2 : Int32} {v3 : Int32} {h : jH}  (hd : 1 ≤ (dd + 1)) {z : (Int32 × Int32) ⊕ (Int32)} (K : fM_howMany_l4_j24 v1 v2 v3 h = some z) (HL : ∀ s : Int32 × Int32, z = .inl s → jEx X (dd + 1) jc_236 4 [some (.ref 110), some (.int v1), some (.int s.1), some (.int s.2)] [] (176, jRf p d q, h) Q) (HE0 : ∀ x : Int32, z = .inr x → jEx X (dd + 1) jc_236 30 [none, none, some (.int x), none] [] (176, jRf p d q, h) Q) :
    jEx X (dd + 1) jc_236 24 [some (.ref 110), some (.int v1), some (.int v2), some (.int v3)] [] (176, jRf p d q, h) Q := by
  unfold fM_howMany_l4_j24 at K
  refine jx_inc (pc := 24) (x := v3) (p2 := [some (.ref 110), some (.int v1), some (.int v2), some (.int (v3 + 1))]) rfl rfl (jlt rfl) rfl ?_
  refine jx_next (pc := 27) (pc' := 4) rfl rfl ?_
  obtain rfl := Option.some.inj K
  refine jx_le (pl' := [some (.ref 110), some (.int v1), some (.int v2), some (.int (v3 + 1))]) (jle_v (jle_v (jle_v (jle_v jle_nil)))) ?_
  exact HL (v2, v3 + 1) rfl
noncomputable def fM_howMany_l4_b (v1 : Int32) (v2 : Int32) (v3 : Int32) (h : jH) : Option ((Int32 × Int32) ⊕ (Int32)) :=
  (Option.bind (fM_guestMany h) (fun (z1 : Int32) =>
  (if v3 < z1 then
  (Option.bind (fM_howOf v3 h) (fun (z3 : Int32) =>
  (if z3 = v1 then
  fM_howMany_l4_j24  v1 (v2 + 1) v3 h
  else
  fM_howMany_l4_j24  v1 v2 v3 h)))
  else
  some (.inr v2))))
noncomputable def fM_howMany_l4 (v1 : Int32) (h : jH) : (Int32 × Int32) → Option ((Int32 × Int32) ⊕ (Int32)) :=
  fun (s : Int32 × Int32) => fM_howMany_l4_b v1 s.1 s.2 h
theorem kM_howMany_l4_b {X : jX} {dd : Nat} {p d : Nat} {q : Nat → Nat} {Q : Option Value → jS → Prop} {v1 : Int32} {v2 : Int32} {v3 : Int32} {h : jH}  (hd : 1 ≤ (dd + 1)) {z : (Int32 × Int32) ⊕ (Int32)} (K : fM_howMany_l4_b v1 v2 v3 h = some z) (HL : ∀ s : Int32 × Int32, z = .inl s → jEx X (dd + 1) jc_236 4 [some (.ref 110), some (.int v1), some (.int s.1), some (.int s.2)] [] (176, jRf p d q, h) Q) (HE0 : ∀ x : Int32, z = .inr x → jEx X (dd + 1) jc_236 30 [none, none, some (.int x), none] [] (176, jRf p d q, h) Q) :
    jEx X (dd + 1) jc_236 4 [some (.ref 110), some (.int v1), some (.int v2), some (.int v3)] [] (176, jRf p d q, h) Q := by
  unfold fM_howMany_l4_b at K
  refine jx_next (pc := 4) (pc' := 5) rfl rfl ?_
  refine jx_next (pc := 5) (pc' := 6) rfl rfl ?_
  refine jx_callv (pc := 6) (o := 110) (rest := [.int v3]) rfl ⟨by decide, by decide⟩ rfl jko_110 (Nat.le_of_ble_eq_true rfl) ?_
  obtain ⟨z1, hz_z1, K⟩ := Option.bind_eq_some_iff.mp K
  refine kM_guestMany  (by omega) hz_z1 ?_
  refine jx_icge (pc := 9) rfl (fun hc2 => ?_) (fun hc2 => ?_)
  · replace K := (if_pos hc2).symm.trans K
    refine jx_next (pc := 12) (pc' := 13) rfl rfl ?_
    refine jx_next (pc := 13) (pc' := 14) rfl rfl ?_
    refine jx_callv (pc := 14) (o := 110) (rest := []) rfl ⟨by decide, by decide⟩ rfl jko_110 (Nat.le_of_ble_eq_true rfl) ?_
    obtain ⟨z3, hz_z3, K⟩ := Option.bind_eq_some_iff.mp K
    refine kM_howOf  (by omega) hz_z3 ?_
    refine jx_next (pc := 17) (pc' := 18) rfl rfl ?_
    refine jx_icne (pc := 18) rfl (fun hc4 => ?_) (fun hc4 => ?_)
    · replace K := (if_pos hc4).symm.trans K
      refine jx_inc (pc := 21) (x := v2) (p2 := [some (.ref 110), some (.int v1), some (.int (v2 + 1)), some (.int v3)]) rfl rfl (jlt rfl) rfl ?_
      refine jx_le (pl' := [some (.ref 110), some (.int v1), some (.int (v2 + 1)), some (.int v3)]) (jle_v (jle_v (jle_v (jle_v jle_nil)))) ?_
      exact kM_howMany_l4_j24  hd K HL HE0
    · replace K := (if_neg hc4).symm.trans K
      refine jx_le (pl' := [some (.ref 110), some (.int v1), some (.int v2), some (.int v3)]) (jle_v (jle_v (jle_v (jle_v jle_nil)))) ?_
      exact kM_howMany_l4_j24  hd K HL HE0
  · replace K := (if_neg hc2).symm.trans K
    obtain rfl := Option.some.inj K
    refine jx_le (pl' := [none, none, some (.int v2), none]) (jle_n (jle_n (jle_v (jle_n jle_nil)))) ?_
    exact HE0 _ rfl
theorem kM_howMany_l4_w {X : jX} {dd : Nat} {p d : Nat} {q : Nat → Nat} {Q : Option Value → jS → Prop} {v1 : Int32} {h : jH}  (hd : 1 ≤ (dd + 1)) {s : Int32 × Int32} {x : Int32} (K : jlim (fM_howMany_l4 v1 h) s = some x) (HE : jEx X (dd + 1) jc_236 30 [none, none, some (.int x), none] [] (176, jRf p d q, h) Q) :
    jEx X (dd + 1) jc_236 4 [some (.ref 110), some (.int v1), some (.int s.1), some (.int s.2)] [] (176, jRf p d q, h) Q := by
  refine jlim_ok (G := fun s : Int32 × Int32 => jEx X (dd + 1) jc_236 4 [some (.ref 110), some (.int v1), some (.int s.1), some (.int s.2)] [] (176, jRf p d q, h) Q) (GX := fun x : Int32 => jEx X (dd + 1) jc_236 30 [none, none, some (.int x), none] [] (176, jRf p d q, h) Q) (fun s z hz HL HE => ?_) K HE
  exact kM_howMany_l4_b  hd hz HL HE
/-- AndGuestModel.howMany(I)I -/
noncomputable def fM_howMany (v1 : Int32) (h : jH) : Option Int32 :=
  (Option.bind (jlim (fM_howMany_l4  v1 h) (0, 0)) (fun (x5 : Int32) =>
  some (x5 : Int32)))
theorem kM_howMany {X : jX} {dd : Nat} {p d : Nat} {q : Nat → Nat} {Q : Option Value → jS → Prop} {v1 : Int32} {h : jH}  (hd : 1 ≤ dd) {z : Int32} (K : fM_howMany v1 h = some z) (HQ : Q (some (.int z)) (176, jRf p d q, h)) :
    jCa X dd 236 [.ref 110, .int v1] (176, jRf p d q, h) Q := by
  obtain ⟨dd, rfl⟩ : ∃ d9, dd = d9 + 1 := ⟨dd - 1, by omega⟩
  unfold fM_howMany at K
  refine jCa_of (es := jc_236) (pl := [some (.ref 110), some (.int v1), none, none]) (M := jm_236) rfl rfl rfl rfl ?_
  refine jx_next (pc := 0) (pc' := 1) rfl rfl ?_
  refine jx_stin (pc := 1) (p2 := [some (.ref 110), some (.int v1), some (.int 0), none]) rfl (jlt rfl) rfl ?_
  refine jx_next (pc := 2) (pc' := 3) rfl rfl ?_
  refine jx_stin (pc := 3) (p2 := [some (.ref 110), some (.int v1), some (.int 0), some (.int 0)]) rfl (jlt rfl) rfl ?_
  refine jx_le (pl' := [some (.ref 110), some (.int v1), some (.int 0), some (.int 0)]) (jle_v (jle_v (jle_v (jle_v jle_nil)))) ?_
  obtain ⟨x5, hz_x5, K⟩ := Option.bind_eq_some_iff.mp K
  refine kM_howMany_l4_w  hd hz_x5 ?_
  refine jx_next (pc := 30) (pc' := 31) rfl rfl ?_
  obtain rfl := Option.some.inj K
  exact jx_iret (pc := 31) rfl HQ
/-- AndGuestModel.sizeOf(I)I -/
noncomputable def fM_sizeOf (v1 : Int32) (h : jH) : Option Int32 :=
  (if jin (34 + (4 * v1)) 64 then
  some (h.1 141 (34 + (4 * v1)).toNatClampNeg : Int32)
  else none)
theorem kM_sizeOf {X : jX} {dd : Nat} {p d : Nat} {q : Nat → Nat} {Q : Option Value → jS → Prop} {v1 : Int32} {h : jH}  (hd : 0 ≤ dd) {z : Int32} (K : fM_sizeOf v1 h = some z) (HQ : Q (some (.int z)) (176, jRf p d q, h)) :
    jCa X dd 238 [.ref 110, .int v1] (176, jRf p d q, h) Q := by
  unfold fM_sizeOf at K
  refine jCa_of (es := jc_238) (pl := [some (.ref 110), some (.int v1)]) (M := jm_238) rfl rfl rfl rfl ?_
  refine jx_next (pc := 0) (pc' := 1) rfl rfl ?_
  refine jx_getr2 (pc := 1) rfl jko_110 jr_12_39 ?_
  refine jx_next (pc := 4) (pc' := 6) rfl rfl ?_
  refine jx_next (pc := 6) (pc' := 7) rfl rfl ?_
  refine jx_next (pc := 7) (pc' := 8) rfl rfl ?_
  refine jx_next (pc := 8) (pc' := 9) rfl rfl ?_
  refine jx_next (pc := 9) (pc' := 10) rfl rfl ?_
  obtain ⟨hg1, K⟩ := jguard K
  refine jx_iald2 (pc := 10) rfl jko_141 jno_141 hg1 ?_
  obtain rfl := Option.some.inj K
  exact jx_iret (pc := 11) rfl HQ
noncomputable def fM_headsMost_l4_j37 (v1 : Int32) (v2 : Int32) (h : jH) : Option ((Int32 × Int32) ⊕ (Int32)) :=
  some (.inl (v1, v2 + 1))
theorem kM_headsMost_l4_j37 {X : jX} {dd : Nat} {p d : Nat} {q : Nat → Nat} {Q : Option Value → jS → Prop} {v1 : Int32} {v2 : Int32} {h : jH}  (hd : 2 ≤ (dd + 1)) {z : (Int32 × Int32) ⊕ (Int32)} (K : fM_headsMost_l4_j37 v1 v2 h = some z) (HL : ∀ s : Int32 × Int32, z = .inl s → jEx X (dd + 1) jc_237 4 [some (.ref 110), some (.int s.1), some (.int s.2)] [] (176, jRf p d q, h) Q) (HE0 : ∀ x : Int32, z = .inr x → jEx X (dd + 1) jc_237 43 [none, some (.int x), none] [] (176, jRf p d q, h) Q) :
    jEx X (dd + 1) jc_237 37 [some (.ref 110), some (.int v1), some (.int v2)] [] (176, jRf p d q, h) Q := by
  unfold fM_headsMost_l4_j37 at K
  refine jx_inc (pc := 37) (x := v2) (p2 := [some (.ref 110), some (.int v1), some (.int (v2 + 1))]) rfl rfl (jlt rfl) rfl ?_
  refine jx_next (pc := 40) (pc' := 4) rfl rfl ?_
  obtain rfl := Option.some.inj K
  refine jx_le (pl' := [some (.ref 110), some (.int v1), some (.int (v2 + 1))]) (jle_v (jle_v (jle_v jle_nil))) ?_
  exact HL (v1, v2 + 1) rfl
noncomputable def fM_headsMost_l4_b (v1 : Int32) (v2 : Int32) (h : jH) : Option ((Int32 × Int32) ⊕ (Int32)) :=
  (Option.bind (fM_guestMany h) (fun (z1 : Int32) =>
  (if v2 < z1 then
  (Option.bind (fM_isAsked v2 h) (fun (z3 : Int32) =>
  (if z3 = 0 then
  fM_headsMost_l4_j37  v1 v2 h
  else
  (Option.bind (fM_howOf v2 h) (fun (z5 : Int32) =>
  (if z5 = 3 then
  fM_headsMost_l4_j37  v1 v2 h
  else
  (Option.bind (fM_sizeOf v2 h) (fun (z7 : Int32) =>
  fM_headsMost_l4_j37  (v1 + z7) v2 h))))))))
  else
  some (.inr v1))))
noncomputable def fM_headsMost_l4  (h : jH) : (Int32 × Int32) → Option ((Int32 × Int32) ⊕ (Int32)) :=
  fun (s : Int32 × Int32) => fM_headsMost_l4_b s.1 s.2 h
theorem kM_headsMost_l4_b {X : jX} {dd : Nat} {p d : Nat} {q : Nat → Nat} {Q : Option Value → jS → Prop} {v1 : Int32} {v2 : Int32} {h : jH}  (hd : 2 ≤ (dd + 1)) {z : (Int32 × Int32) ⊕ (Int32)} (K : fM_headsMost_l4_b v1 v2 h = some z) (HL : ∀ s : Int32 × Int32, z = .inl s → jEx X (dd + 1) jc_237 4 [some (.ref 110), some (.int s.1), some (.int s.2)] [] (176, jRf p d q, h) Q) (HE0 : ∀ x : Int32, z = .inr x → jEx X (dd + 1) jc_237 43 [none, some (.int x), none] [] (176, jRf p d q, h) Q) :
    jEx X (dd + 1) jc_237 4 [some (.ref 110), some (.int v1), some (.int v2)] [] (176, jRf p d q, h) Q := by
  unfold fM_headsMost_l4_b at K
  refine jx_next (pc := 4) (pc' := 5) rfl rfl ?_
  refine jx_next (pc := 5) (pc' := 6) rfl rfl ?_
  refine jx_callv (pc := 6) (o := 110) (rest := [.int v2]) rfl ⟨by decide, by decide⟩ rfl jko_110 (Nat.le_of_ble_eq_true rfl) ?_
  obtain ⟨z1, hz_z1, K⟩ := Option.bind_eq_some_iff.mp K
  refine kM_guestMany  (by omega) hz_z1 ?_
  refine jx_icge (pc := 9) rfl (fun hc2 => ?_) (fun hc2 => ?_)
  · replace K := (if_pos hc2).symm.trans K
    refine jx_next (pc := 12) (pc' := 13) rfl rfl ?_
    refine jx_next (pc := 13) (pc' := 14) rfl rfl ?_
    refine jx_callv (pc := 14) (o := 110) (rest := []) rfl ⟨by decide, by decide⟩ rfl jko_110 (Nat.le_of_ble_eq_true rfl) ?_
    obtain ⟨z3, hz_z3, K⟩ := Option.bind_eq_some_iff.mp K
    refine kM_isAsked  (by omega) hz_z3 ?_
    refine jx_ifeq (pc := 17) rfl (fun hc4 => ?_) (fun hc4 => ?_)
    · replace K := (if_pos hc4).symm.trans K
      refine jx_le (pl' := [some (.ref 110), some (.int v1), some (.int v2)]) (jle_v (jle_v (jle_v jle_nil))) ?_
      exact kM_headsMost_l4_j37  hd K HL HE0
    · replace K := (if_neg hc4).symm.trans K
      refine jx_next (pc := 20) (pc' := 21) rfl rfl ?_
      refine jx_next (pc := 21) (pc' := 22) rfl rfl ?_
      refine jx_callv (pc := 22) (o := 110) (rest := []) rfl ⟨by decide, by decide⟩ rfl jko_110 (Nat.le_of_ble_eq_true rfl) ?_
      obtain ⟨z5, hz_z5, K⟩ := Option.bind_eq_some_iff.mp K
      refine kM_howOf  (by omega) hz_z5 ?_
      refine jx_next (pc := 25) (pc' := 26) rfl rfl ?_
      refine jx_iceq (pc := 26) rfl (fun hc6 => ?_) (fun hc6 => ?_)
      · replace K := (if_pos hc6).symm.trans K
        refine jx_le (pl' := [some (.ref 110), some (.int v1), some (.int v2)]) (jle_v (jle_v (jle_v jle_nil))) ?_
        exact kM_headsMost_l4_j37  hd K HL HE0
      · replace K := (if_neg hc6).symm.trans K
        refine jx_next (pc := 29) (pc' := 30) rfl rfl ?_
        refine jx_next (pc := 30) (pc' := 31) rfl rfl ?_
        refine jx_next (pc := 31) (pc' := 32) rfl rfl ?_
        refine jx_callv (pc := 32) (o := 110) (rest := [.int v1]) rfl ⟨by decide, by decide⟩ rfl jko_110 (Nat.le_of_ble_eq_true rfl) ?_
        obtain ⟨z7, hz_z7, K⟩ := Option.bind_eq_some_iff.mp K
        refine kM_sizeOf  (by omega) hz_z7 ?_
        refine jx_next (pc := 35) (pc' := 36) rfl rfl ?_
        refine jx_stin (pc := 36) (p2 := [some (.ref 110), some (.int (v1 + z7)), some (.int v2)]) rfl (jlt rfl) rfl ?_
        refine jx_le (pl' := [some (.ref 110), some (.int (v1 + z7)), some (.int v2)]) (jle_v (jle_v (jle_v jle_nil))) ?_
        exact kM_headsMost_l4_j37  hd K HL HE0
  · replace K := (if_neg hc2).symm.trans K
    obtain rfl := Option.some.inj K
    refine jx_le (pl' := [none, some (.int v1), none]) (jle_n (jle_v (jle_n jle_nil))) ?_
    exact HE0 _ rfl
theorem kM_headsMost_l4_w {X : jX} {dd : Nat} {p d : Nat} {q : Nat → Nat} {Q : Option Value → jS → Prop}  {h : jH}  (hd : 2 ≤ (dd + 1)) {s : Int32 × Int32} {x : Int32} (K : jlim (fM_headsMost_l4  h) s = some x) (HE : jEx X (dd + 1) jc_237 43 [none, some (.int x), none] [] (176, jRf p d q, h) Q) :
    jEx X (dd + 1) jc_237 4 [some (.ref 110), some (.int s.1), some (.int s.2)] [] (176, jRf p d q, h) Q := by
  refine jlim_ok (G := fun s : Int32 × Int32 => jEx X (dd + 1) jc_237 4 [some (.ref 110), some (.int s.1), some (.int s.2)] [] (176, jRf p d q, h) Q) (GX := fun x : Int32 => jEx X (dd + 1) jc_237 43 [none, some (.int x), none] [] (176, jRf p d q, h) Q) (fun s z hz HL HE => ?_) K HE
  exact kM_headsMost_l4_b  hd hz HL HE
/-- AndGuestModel.headsMost()I -/
noncomputable def fM_headsMost  (h : jH) : Option Int32 :=
  (Option.bind (jlim (fM_headsMost_l4  h) (0, 0)) (fun (x8 : Int32) =>
  some (x8 : Int32)))
theorem kM_headsMost {X : jX} {dd : Nat} {p d : Nat} {q : Nat → Nat} {Q : Option Value → jS → Prop}  {h : jH}  (hd : 2 ≤ dd) {z : Int32} (K : fM_headsMost  h = some z) (HQ : Q (some (.int z)) (176, jRf p d q, h)) :
    jCa X dd 237 [.ref 110] (176, jRf p d q, h) Q := by
  obtain ⟨dd, rfl⟩ : ∃ d9, dd = d9 + 1 := ⟨dd - 1, by omega⟩
  unfold fM_headsMost at K
  refine jCa_of (es := jc_237) (pl := [some (.ref 110), none, none]) (M := jm_237) rfl rfl rfl rfl ?_
  refine jx_next (pc := 0) (pc' := 1) rfl rfl ?_
  refine jx_stin (pc := 1) (p2 := [some (.ref 110), some (.int 0), none]) rfl (jlt rfl) rfl ?_
  refine jx_next (pc := 2) (pc' := 3) rfl rfl ?_
  refine jx_stin (pc := 3) (p2 := [some (.ref 110), some (.int 0), some (.int 0)]) rfl (jlt rfl) rfl ?_
  refine jx_le (pl' := [some (.ref 110), some (.int 0), some (.int 0)]) (jle_v (jle_v (jle_v jle_nil))) ?_
  obtain ⟨x8, hz_x8, K⟩ := Option.bind_eq_some_iff.mp K
  refine kM_headsMost_l4_w  hd hz_x8 ?_
  refine jx_next (pc := 43) (pc' := 44) rfl rfl ?_
  obtain rfl := Option.some.inj K
  exact jx_iret (pc := 44) rfl HQ
noncomputable def fM_has_j94 (v1 : Int32) (h : jH) : Option Int32 :=
  (Option.bind (fM_howMany (v1 - 4) h) (fun (z7 : Int32) =>
  some (z7 : Int32)))
theorem kM_has_j94 {X : jX} {dd : Nat} {p d : Nat} {q : Nat → Nat} {Q : Option Value → jS → Prop} {v1 : Int32} {h : jH}  (hd : 3 ≤ (dd + 1)) {z : Int32} (K : fM_has_j94 v1 h = some z) (HQ : Q (some (.int z)) (176, jRf p d q, h)) :
    jEx X (dd + 1) jc_230 94 [some (.ref 110), some (.int v1)] [] (176, jRf p d q, h) Q := by
  unfold fM_has_j94 at K
  refine jx_next (pc := 94) (pc' := 95) rfl rfl ?_
  refine jx_next (pc := 95) (pc' := 96) rfl rfl ?_
  refine jx_next (pc := 96) (pc' := 97) rfl rfl ?_
  refine jx_next (pc := 97) (pc' := 98) rfl rfl ?_
  refine jx_callv (pc := 98) (o := 110) (rest := []) rfl ⟨by decide, by decide⟩ rfl jko_110 (Nat.le_of_ble_eq_true rfl) ?_
  obtain ⟨z7, hz_z7, K⟩ := Option.bind_eq_some_iff.mp K
  refine kM_howMany  (by omega) hz_z7 ?_
  obtain rfl := Option.some.inj K
  exact jx_iret (pc := 101) rfl HQ
/-- AndGuestModel.has(I)I -/
noncomputable def fM_has (v1 : Int32) (h : jH) : Option Int32 :=
  (if v1 = 0 then
  (Option.bind (fM_guestMany h) (fun (z1 : Int32) =>
  some (z1 : Int32)))
  else
  (if v1 = 1 then
  (if jin 4 6 then
  some (h.1 138 (4 : Int32).toNatClampNeg : Int32)
  else none)
  else
  (if v1 = 2 then
  (if jin 4 8 then
  some (h.1 140 (4 : Int32).toNatClampNeg : Int32)
  else none)
  else
  (if v1 = 3 then
  (if jin 0 18 then
  some (h.1 148 (0 : Int32).toNatClampNeg : Int32)
  else none)
  else
  (if v1 = 4 then
  (Option.bind (fM_askedSet h) (fun (z5 : Int32) =>
  (Option.bind (fM_bits z5 h) (fun (z6 : Int32) =>
  some (z6 : Int32)))))
  else
  (if v1 = 5 then
  fM_has_j94  v1 h
  else
  (if v1 = 6 then
  fM_has_j94  v1 h
  else
  (if v1 = 7 then
  fM_has_j94  v1 h
  else
  (if v1 = 8 then
  fM_has_j94  v1 h
  else
  (if v1 = 9 then
  (Option.bind (fM_headsMost h) (fun (z8 : Int32) =>
  some (z8 : Int32)))
  else
  (if v1 = 10 then
  some (h.1 110 56 : Int32)
  else
  some ((-1) : Int32))))))))))))
theorem kM_has {X : jX} {dd : Nat} {p d : Nat} {q : Nat → Nat} {Q : Option Value → jS → Prop} {v1 : Int32} {h : jH}  (hd : 3 ≤ dd) {z : Int32} (K : fM_has v1 h = some z) (HQ : Q (some (.int z)) (176, jRf p d q, h)) :
    jCa X dd 230 [.ref 110, .int v1] (176, jRf p d q, h) Q := by
  obtain ⟨dd, rfl⟩ : ∃ d9, dd = d9 + 1 := ⟨dd - 1, by omega⟩
  unfold fM_has at K
  refine jCa_of (es := jc_230) (pl := [some (.ref 110), some (.int v1)]) (M := jm_230) rfl rfl rfl rfl ?_
  refine jx_next (pc := 0) (pc' := 1) rfl rfl ?_
  refine jx_tsw (pc := 1) rfl ?_
  refine jx_sw1 (fun hc19 => ?_) (fun hc19 => ?_)
  · replace K := (if_pos hc19).symm.trans K
    refine jx_next (pc := 60) (pc' := 61) rfl rfl ?_
    refine jx_callv (pc := 61) (o := 110) (rest := []) rfl ⟨by decide, by decide⟩ rfl jko_110 (Nat.le_of_ble_eq_true rfl) ?_
    obtain ⟨z1, hz_z1, K⟩ := Option.bind_eq_some_iff.mp K
    refine kM_guestMany  (by omega) hz_z1 ?_
    obtain rfl := Option.some.inj K
    exact jx_iret (pc := 64) rfl HQ
  · replace K := (if_neg hc19).symm.trans K
    refine jx_sw1 (fun hc18 => ?_) (fun hc18 => ?_)
    · replace K := (if_pos hc18).symm.trans K
      refine jx_next (pc := 65) (pc' := 66) rfl rfl ?_
      refine jx_getr2 (pc := 66) rfl jko_110 jr_12_36 ?_
      refine jx_next (pc := 69) (pc' := 70) rfl rfl ?_
      obtain ⟨hg2, K⟩ := jguard K
      refine jx_iald2 (pc := 70) rfl jko_138 jno_138 hg2 ?_
      obtain rfl := Option.some.inj K
      exact jx_iret (pc := 71) rfl HQ
    · replace K := (if_neg hc18).symm.trans K
      refine jx_sw1 (fun hc17 => ?_) (fun hc17 => ?_)
      · replace K := (if_pos hc17).symm.trans K
        refine jx_next (pc := 72) (pc' := 73) rfl rfl ?_
        refine jx_getr2 (pc := 73) rfl jko_110 jr_12_38 ?_
        refine jx_next (pc := 76) (pc' := 77) rfl rfl ?_
        obtain ⟨hg3, K⟩ := jguard K
        refine jx_iald2 (pc := 77) rfl jko_140 jno_140 hg3 ?_
        obtain rfl := Option.some.inj K
        exact jx_iret (pc := 78) rfl HQ
      · replace K := (if_neg hc17).symm.trans K
        refine jx_sw1 (fun hc16 => ?_) (fun hc16 => ?_)
        · replace K := (if_pos hc16).symm.trans K
          refine jx_next (pc := 79) (pc' := 80) rfl rfl ?_
          refine jx_getr2 (pc := 80) rfl jko_110 jr_12_50 ?_
          refine jx_next (pc := 83) (pc' := 84) rfl rfl ?_
          obtain ⟨hg4, K⟩ := jguard K
          refine jx_iald2 (pc := 84) rfl jko_148 jno_148 hg4 ?_
          obtain rfl := Option.some.inj K
          exact jx_iret (pc := 85) rfl HQ
        · replace K := (if_neg hc16).symm.trans K
          refine jx_sw1 (fun hc15 => ?_) (fun hc15 => ?_)
          · replace K := (if_pos hc15).symm.trans K
            refine jx_next (pc := 86) (pc' := 87) rfl rfl ?_
            refine jx_callv (pc := 87) (o := 110) (rest := []) rfl ⟨by decide, by decide⟩ rfl jko_110 (Nat.le_of_ble_eq_true rfl) ?_
            obtain ⟨z5, hz_z5, K⟩ := Option.bind_eq_some_iff.mp K
            refine kM_askedSet  (by omega) hz_z5 ?_
            refine jx_calls (pc := 90) rfl (Nat.le_of_ble_eq_true rfl) (Nat.le_of_ble_eq_true rfl) ?_
            obtain ⟨z6, hz_z6, K⟩ := Option.bind_eq_some_iff.mp K
            refine kM_bits  (by omega) hz_z6 ?_
            obtain rfl := Option.some.inj K
            exact jx_iret (pc := 93) rfl HQ
          · replace K := (if_neg hc15).symm.trans K
            refine jx_sw1 (fun hc14 => ?_) (fun hc14 => ?_)
            · replace K := (if_pos hc14).symm.trans K
              refine jx_le (pl' := [some (.ref 110), some (.int v1)]) (jle_v (jle_v jle_nil)) ?_
              exact kM_has_j94  hd K HQ
            · replace K := (if_neg hc14).symm.trans K
              refine jx_sw1 (fun hc13 => ?_) (fun hc13 => ?_)
              · replace K := (if_pos hc13).symm.trans K
                refine jx_le (pl' := [some (.ref 110), some (.int v1)]) (jle_v (jle_v jle_nil)) ?_
                exact kM_has_j94  hd K HQ
              · replace K := (if_neg hc13).symm.trans K
                refine jx_sw1 (fun hc12 => ?_) (fun hc12 => ?_)
                · replace K := (if_pos hc12).symm.trans K
                  refine jx_le (pl' := [some (.ref 110), some (.int v1)]) (jle_v (jle_v jle_nil)) ?_
                  exact kM_has_j94  hd K HQ
                · replace K := (if_neg hc12).symm.trans K
                  refine jx_sw1 (fun hc11 => ?_) (fun hc11 => ?_)
                  · replace K := (if_pos hc11).symm.trans K
                    refine jx_le (pl' := [some (.ref 110), some (.int v1)]) (jle_v (jle_v jle_nil)) ?_
                    exact kM_has_j94  hd K HQ
                  · replace K := (if_neg hc11).symm.trans K
                    refine jx_sw1 (fun hc10 => ?_) (fun hc10 => ?_)
                    · replace K := (if_pos hc10).symm.trans K
                      refine jx_next (pc := 102) (pc' := 103) rfl rfl ?_
                      refine jx_callv (pc := 103) (o := 110) (rest := []) rfl ⟨by decide, by decide⟩ rfl jko_110 (Nat.le_of_ble_eq_true rfl) ?_
                      obtain ⟨z8, hz_z8, K⟩ := Option.bind_eq_some_iff.mp K
                      refine kM_headsMost  (by omega) hz_z8 ?_
                      obtain rfl := Option.some.inj K
                      exact jx_iret (pc := 106) rfl HQ
                    · replace K := (if_neg hc10).symm.trans K
                      refine jx_sw1 (fun hc9 => ?_) (fun hc9 => ?_)
                      · replace K := (if_pos hc9).symm.trans K
                        refine jx_next (pc := 107) (pc' := 108) rfl rfl ?_
                        refine jx_geti (pc := 108) rfl jko_110 ?_
                        obtain rfl := Option.some.inj K
                        exact jx_iret (pc := 111) rfl HQ
                      · replace K := (if_neg hc9).symm.trans K
                        refine jx_sw0 ?_
                        refine jx_next (pc := 112) (pc' := 113) rfl rfl ?_
                        obtain rfl := Option.some.inj K
                        exact jx_iret (pc := 113) rfl HQ
/-- AndGuestModel.isGuest(I)Z -/
noncomputable def fM_isGuest (v1 : Int32) (h : jH) : Option Int32 :=
  (Option.bind (fM_guestMany h) (fun (z1 : Int32) =>
  (if (fM_isIn v1.toInt64 0 ((z1 - 1).toInt64)) = 0 ∨ (fM_isIn v1.toInt64 0 ((z1 - 1).toInt64)) = 1 then some ((fM_isIn v1.toInt64 0 ((z1 - 1).toInt64)) : Int32) else none)))
theorem kM_isGuest {X : jX} {dd : Nat} {p d : Nat} {q : Nat → Nat} {Q : Option Value → jS → Prop} {v1 : Int32} {h : jH}  (hd : 1 ≤ dd) {z : Int32} (K : fM_isGuest v1 h = some z) (HQ : Q (some (.int z)) (176, jRf p d q, h)) :
    jCa X dd 240 [.ref 110, .int v1] (176, jRf p d q, h) Q := by
  obtain ⟨dd, rfl⟩ : ∃ d9, dd = d9 + 1 := ⟨dd - 1, by omega⟩
  unfold fM_isGuest at K
  refine jCa_of (es := jc_240) (pl := [some (.ref 110), some (.int v1)]) (M := jm_240) rfl rfl rfl rfl ?_
  refine jx_next (pc := 0) (pc' := 1) rfl rfl ?_
  refine jx_next (pc := 1) (pc' := 2) rfl rfl ?_
  refine jx_next (pc := 2) (pc' := 3) rfl rfl ?_
  refine jx_next (pc := 3) (pc' := 4) rfl rfl ?_
  refine jx_callv (pc := 4) (o := 110) (rest := [.long 0, .long v1.toInt64]) rfl ⟨by decide, by decide⟩ rfl jko_110 (Nat.le_of_ble_eq_true rfl) ?_
  obtain ⟨z1, hz_z1, K⟩ := Option.bind_eq_some_iff.mp K
  refine kM_guestMany  (by omega) hz_z1 ?_
  refine jx_next (pc := 7) (pc' := 8) rfl rfl ?_
  refine jx_next (pc := 8) (pc' := 9) rfl rfl ?_
  refine jx_next (pc := 9) (pc' := 10) rfl rfl ?_
  refine jx_calls (pc := 10) rfl (Nat.le_of_ble_eq_true rfl) (Nat.le_of_ble_eq_true rfl) ?_
  refine kM_isIn  (by omega) rfl ?_
  obtain ⟨hg, K⟩ := jguard K
  obtain rfl := Option.some.inj K
  exact jx_zret (pc := 13) rfl hg HQ
noncomputable def fM_letter_l38_b (v2 : Int32) (v3 : Int64) (v5 : Int32) (v6 : Int64) (h : jH) : Option ((Int32 × Int64) ⊕ (Int32)) :=
  (if 0 < v6 then
  some (.inl (v5 + 1, v6 / 27))
  else
  some (.inr v5))
noncomputable def fM_letter_l38 (v2 : Int32) (v3 : Int64) (h : jH) : (Int32 × Int64) → Option ((Int32 × Int64) ⊕ (Int32)) :=
  fun (s : Int32 × Int64) => fM_letter_l38_b v2 v3 s.1 s.2 h
theorem kM_letter_l38_b {X : jX} {dd : Nat} {p d : Nat} {q : Nat → Nat} {Q : Option Value → jS → Prop} {v2 : Int32} {v3 : Int64} {v5 : Int32} {v6 : Int64} {h : jH}  (hd : 2 ≤ (dd + 1)) {z : (Int32 × Int64) ⊕ (Int32)} (K : fM_letter_l38_b v2 v3 v5 v6 h = some z) (HL : ∀ s : Int32 × Int64, z = .inl s → jEx X (dd + 1) jc_239 38 [none, none, some (.int v2), some (.long v3), none, some (.int s.1), some (.long s.2), none] [] (176, jRf p d q, h) Q) (HE0 : ∀ x : Int32, z = .inr x → jEx X (dd + 1) jc_239 59 [none, none, some (.int v2), some (.long v3), none, some (.int x), none, none] [] (176, jRf p d q, h) Q) :
    jEx X (dd + 1) jc_239 38 [none, none, some (.int v2), some (.long v3), none, some (.int v5), some (.long v6), none] [] (176, jRf p d q, h) Q := by
  unfold fM_letter_l38_b at K
  refine jx_next (pc := 38) (pc' := 40) rfl rfl ?_
  refine jx_next (pc := 40) (pc' := 41) rfl rfl ?_
  refine jx_lcle (pc := 41) rfl rfl (fun hc6 => ?_) (fun hc6 => ?_)
  · replace K := (if_pos hc6).symm.trans K
    refine jx_inc (pc := 45) (x := v5) (p2 := [none, none, some (.int v2), some (.long v3), none, some (.int (v5 + 1)), some (.long v6), none]) rfl rfl (jlt rfl) rfl ?_
    refine jx_next (pc := 48) (pc' := 50) rfl rfl ?_
    refine jx_next (pc := 50) (pc' := 53) rfl rfl ?_
    refine jx_ldiv (pc := 53) rfl (by decide) ?_
    refine jx_stl (pc := 54) (p2 := [none, none, some (.int v2), some (.long v3), none, some (.int (v5 + 1)), some (.long (v6 / 27)), none]) rfl (jlt rfl) rfl ?_
    refine jx_next (pc := 56) (pc' := 38) rfl rfl ?_
    obtain rfl := Option.some.inj K
    refine jx_le (pl' := [none, none, some (.int v2), some (.long v3), none, some (.int (v5 + 1)), some (.long (v6 / 27)), none]) (jle_n (jle_n (jle_v (jle_v (jle_n (jle_v (jle_v (jle_n jle_nil)))))))) ?_
    exact HL (v5 + 1, v6 / 27) rfl
  · replace K := (if_neg hc6).symm.trans K
    obtain rfl := Option.some.inj K
    refine jx_le (pl' := [none, none, some (.int v2), some (.long v3), none, some (.int v5), none, none]) (jle_n (jle_n (jle_v (jle_v (jle_n (jle_v (jle_n (jle_n jle_nil)))))))) ?_
    exact HE0 _ rfl
theorem kM_letter_l38_w {X : jX} {dd : Nat} {p d : Nat} {q : Nat → Nat} {Q : Option Value → jS → Prop} {v2 : Int32} {v3 : Int64} {h : jH}  (hd : 2 ≤ (dd + 1)) {s : Int32 × Int64} {x : Int32} (K : jlim (fM_letter_l38 v2 v3 h) s = some x) (HE : jEx X (dd + 1) jc_239 59 [none, none, some (.int v2), some (.long v3), none, some (.int x), none, none] [] (176, jRf p d q, h) Q) :
    jEx X (dd + 1) jc_239 38 [none, none, some (.int v2), some (.long v3), none, some (.int s.1), some (.long s.2), none] [] (176, jRf p d q, h) Q := by
  refine jlim_ok (G := fun s : Int32 × Int64 => jEx X (dd + 1) jc_239 38 [none, none, some (.int v2), some (.long v3), none, some (.int s.1), some (.long s.2), none] [] (176, jRf p d q, h) Q) (GX := fun x : Int32 => jEx X (dd + 1) jc_239 59 [none, none, some (.int v2), some (.long v3), none, some (.int x), none, none] [] (176, jRf p d q, h) Q) (fun s z hz HL HE => ?_) K HE
  exact kM_letter_l38_b  hd hz HL HE
noncomputable def fM_letter_l73_b (v2 : Int32) (v3 : Int64) (v6 : Int32) (h : jH) : Option ((Int64 × Int32) ⊕ (Int64)) :=
  (if v2 < v6 then
  some (.inl (v3 / 27, v6 + (-1)))
  else
  some (.inr v3))
noncomputable def fM_letter_l73 (v2 : Int32) (h : jH) : (Int64 × Int32) → Option ((Int64 × Int32) ⊕ (Int64)) :=
  fun (s : Int64 × Int32) => fM_letter_l73_b v2 s.1 s.2 h
theorem kM_letter_l73_b {X : jX} {dd : Nat} {p d : Nat} {q : Nat → Nat} {Q : Option Value → jS → Prop} {v2 : Int32} {v3 : Int64} {v6 : Int32} {h : jH}  (hd : 2 ≤ (dd + 1)) {z : (Int64 × Int32) ⊕ (Int64)} (K : fM_letter_l73_b v2 v3 v6 h = some z) (HL : ∀ s : Int64 × Int32, z = .inl s → jEx X (dd + 1) jc_239 73 [none, none, some (.int v2), some (.long s.1), none, none, some (.int s.2), none] [] (176, jRf p d q, h) Q) (HE0 : ∀ x : Int64, z = .inr x → jEx X (dd + 1) jc_239 91 [none, none, none, some (.long x), none, none, none, none] [] (176, jRf p d q, h) Q) :
    jEx X (dd + 1) jc_239 73 [none, none, some (.int v2), some (.long v3), none, none, some (.int v6), none] [] (176, jRf p d q, h) Q := by
  unfold fM_letter_l73_b at K
  refine jx_next (pc := 73) (pc' := 75) rfl rfl ?_
  refine jx_next (pc := 75) (pc' := 76) rfl rfl ?_
  refine jx_icle (pc := 76) rfl (fun hc9 => ?_) (fun hc9 => ?_)
  · replace K := (if_pos hc9).symm.trans K
    refine jx_next (pc := 79) (pc' := 80) rfl rfl ?_
    refine jx_next (pc := 80) (pc' := 83) rfl rfl ?_
    refine jx_ldiv (pc := 83) rfl (by decide) ?_
    refine jx_stln (pc := 84) (p2 := [none, none, some (.int v2), some (.long (v3 / 27)), none, none, some (.int v6), none]) rfl (jlt rfl) rfl ?_
    refine jx_inc (pc := 85) (x := v6) (p2 := [none, none, some (.int v2), some (.long (v3 / 27)), none, none, some (.int (v6 + (-1))), none]) rfl rfl (jlt rfl) rfl ?_
    refine jx_next (pc := 88) (pc' := 73) rfl rfl ?_
    obtain rfl := Option.some.inj K
    refine jx_le (pl' := [none, none, some (.int v2), some (.long (v3 / 27)), none, none, some (.int (v6 + (-1))), none]) (jle_n (jle_n (jle_v (jle_v (jle_n (jle_n (jle_v (jle_n jle_nil)))))))) ?_
    exact HL (v3 / 27, v6 + (-1)) rfl
  · replace K := (if_neg hc9).symm.trans K
    obtain rfl := Option.some.inj K
    refine jx_le (pl' := [none, none, none, some (.long v3), none, none, none, none]) (jle_n (jle_n (jle_n (jle_v (jle_n (jle_n (jle_n (jle_n jle_nil)))))))) ?_
    exact HE0 _ rfl
theorem kM_letter_l73_w {X : jX} {dd : Nat} {p d : Nat} {q : Nat → Nat} {Q : Option Value → jS → Prop} {v2 : Int32} {h : jH}  (hd : 2 ≤ (dd + 1)) {s : Int64 × Int32} {x : Int64} (K : jlim (fM_letter_l73 v2 h) s = some x) (HE : jEx X (dd + 1) jc_239 91 [none, none, none, some (.long x), none, none, none, none] [] (176, jRf p d q, h) Q) :
    jEx X (dd + 1) jc_239 73 [none, none, some (.int v2), some (.long s.1), none, none, some (.int s.2), none] [] (176, jRf p d q, h) Q := by
  refine jlim_ok (G := fun s : Int64 × Int32 => jEx X (dd + 1) jc_239 73 [none, none, some (.int v2), some (.long s.1), none, none, some (.int s.2), none] [] (176, jRf p d q, h) Q) (GX := fun x : Int64 => jEx X (dd + 1) jc_239 91 [none, none, none, some (.long x), none, none, none, none] [] (176, jRf p d q, h) Q) (fun s z hz HL HE => ?_) K HE
  exact kM_letter_l73_b  hd hz HL HE
/-- AndGuestModel.letter(II)I -/
noncomputable def fM_letter (v1 : Int32) (v2 : Int32) (h : jH) : Option Int32 :=
  (Option.bind (fM_isGuest v1 h) (fun (z1 : Int32) =>
  (if z1 = 0 then
  some ((-1) : Int32)
  else
  (if (fM_isIn v2.toInt64 0 5) = 0 then
  some ((-1) : Int32)
  else
  (if jin (8 + v1) 16 then
  (Option.bind (jlim (fM_letter_l38  v2 (h.2 139 (8 + v1).toNatClampNeg) h) (0, h.2 139 (8 + v1).toNatClampNeg)) (fun (x7 : Int32) =>
  (if v2 < x7 then
  (Option.bind (jlim (fM_letter_l73  v2 h) (h.2 139 (8 + v1).toNatClampNeg, x7 - 1)) (fun (x10 : Int64) =>
  some ((x10 - x10 / 27 * 27).toInt32 : Int32)))
  else
  some (0 : Int32))))
  else none)))))
theorem kM_letter {X : jX} {dd : Nat} {p d : Nat} {q : Nat → Nat} {Q : Option Value → jS → Prop} {v1 : Int32} {v2 : Int32} {h : jH}  (hd : 2 ≤ dd) {z : Int32} (K : fM_letter v1 v2 h = some z) (HQ : Q (some (.int z)) (176, jRf p d q, h)) :
    jCa X dd 239 [.ref 110, .int v1, .int v2] (176, jRf p d q, h) Q := by
  obtain ⟨dd, rfl⟩ : ∃ d9, dd = d9 + 1 := ⟨dd - 1, by omega⟩
  unfold fM_letter at K
  refine jCa_of (es := jc_239) (pl := [some (.ref 110), some (.int v1), some (.int v2), none, none, none, none, none]) (M := jm_239) rfl rfl rfl rfl ?_
  refine jx_next (pc := 0) (pc' := 1) rfl rfl ?_
  refine jx_next (pc := 1) (pc' := 2) rfl rfl ?_
  refine jx_callv (pc := 2) (o := 110) (rest := []) rfl ⟨by decide, by decide⟩ rfl jko_110 (Nat.le_of_ble_eq_true rfl) ?_
  obtain ⟨z1, hz_z1, K⟩ := Option.bind_eq_some_iff.mp K
  refine kM_isGuest  (by omega) hz_z1 ?_
  refine jx_ifeq (pc := 5) rfl (fun hc2 => ?_) (fun hc2 => ?_)
  · replace K := (if_pos hc2).symm.trans K
    refine jx_next (pc := 20) (pc' := 21) rfl rfl ?_
    obtain rfl := Option.some.inj K
    exact jx_iret (pc := 21) rfl HQ
  · replace K := (if_neg hc2).symm.trans K
    refine jx_next (pc := 8) (pc' := 9) rfl rfl ?_
    refine jx_next (pc := 9) (pc' := 10) rfl rfl ?_
    refine jx_next (pc := 10) (pc' := 11) rfl rfl ?_
    refine jx_next (pc := 11) (pc' := 14) rfl rfl ?_
    refine jx_calls (pc := 14) rfl (Nat.le_of_ble_eq_true rfl) (Nat.le_of_ble_eq_true rfl) ?_
    refine kM_isIn  (by omega) rfl ?_
    refine jx_ifne (pc := 17) rfl (fun hc4 => ?_) (fun hc4 => ?_)
    · replace K := (if_pos hc4).symm.trans K
      refine jx_next (pc := 20) (pc' := 21) rfl rfl ?_
      obtain rfl := Option.some.inj K
      exact jx_iret (pc := 21) rfl HQ
    · replace K := (if_neg hc4).symm.trans K
      refine jx_next (pc := 22) (pc' := 23) rfl rfl ?_
      refine jx_getr2 (pc := 23) rfl jko_110 jr_12_37 ?_
      refine jx_next (pc := 26) (pc' := 28) rfl rfl ?_
      refine jx_next (pc := 28) (pc' := 29) rfl rfl ?_
      refine jx_next (pc := 29) (pc' := 30) rfl rfl ?_
      obtain ⟨hg5, K⟩ := jguard K
      refine jx_lald2 (pc := 30) rfl jko_139 jno_139 hg5 ?_
      refine jx_stln (pc := 31) (p2 := [some (.ref 110), some (.int v1), some (.int v2), some (.long (h.2 139 (8 + v1).toNatClampNeg)), none, none, none, none]) rfl (jlt rfl) rfl ?_
      refine jx_next (pc := 32) (pc' := 33) rfl rfl ?_
      refine jx_sti (pc := 33) (p2 := [some (.ref 110), some (.int v1), some (.int v2), some (.long (h.2 139 (8 + v1).toNatClampNeg)), none, some (.int 0), none, none]) rfl (jlt rfl) rfl ?_
      refine jx_next (pc := 35) (pc' := 36) rfl rfl ?_
      refine jx_stl (pc := 36) (p2 := [some (.ref 110), some (.int v1), some (.int v2), some (.long (h.2 139 (8 + v1).toNatClampNeg)), none, some (.int 0), some (.long (h.2 139 (8 + v1).toNatClampNeg)), none]) rfl (jlt rfl) rfl ?_
      refine jx_le (pl' := [none, none, some (.int v2), some (.long (h.2 139 (8 + v1).toNatClampNeg)), none, some (.int 0), some (.long (h.2 139 (8 + v1).toNatClampNeg)), none]) (jle_n (jle_n (jle_v (jle_v (jle_n (jle_v (jle_v (jle_n jle_nil)))))))) ?_
      obtain ⟨x7, hz_x7, K⟩ := Option.bind_eq_some_iff.mp K
      refine kM_letter_l38_w  hd hz_x7 ?_
      refine jx_next (pc := 59) (pc' := 60) rfl rfl ?_
      refine jx_next (pc := 60) (pc' := 62) rfl rfl ?_
      refine jx_iclt (pc := 62) rfl (fun hc8 => ?_) (fun hc8 => ?_)
      · replace K := (if_pos hc8).symm.trans K
        refine jx_next (pc := 67) (pc' := 69) rfl rfl ?_
        refine jx_next (pc := 69) (pc' := 70) rfl rfl ?_
        refine jx_next (pc := 70) (pc' := 71) rfl rfl ?_
        refine jx_sti (pc := 71) (p2 := [none, none, some (.int v2), some (.long (h.2 139 (8 + v1).toNatClampNeg)), none, some (.int x7), some (.int (x7 - 1)), none]) rfl (jlt rfl) rfl ?_
        refine jx_le (pl' := [none, none, some (.int v2), some (.long (h.2 139 (8 + v1).toNatClampNeg)), none, none, some (.int (x7 - 1)), none]) (jle_n (jle_n (jle_v (jle_v (jle_n (jle_n (jle_v (jle_n jle_nil)))))))) ?_
        obtain ⟨x10, hz_x10, K⟩ := Option.bind_eq_some_iff.mp K
        refine kM_letter_l73_w  hd hz_x10 ?_
        refine jx_next (pc := 91) (pc' := 92) rfl rfl ?_
        refine jx_next (pc := 92) (pc' := 95) rfl rfl ?_
        refine jx_lrem (pc := 95) rfl (by decide) ?_
        refine jx_next (pc := 96) (pc' := 97) rfl rfl ?_
        obtain rfl := Option.some.inj K
        exact jx_iret (pc := 97) rfl HQ
      · replace K := (if_neg hc8).symm.trans K
        refine jx_next (pc := 65) (pc' := 66) rfl rfl ?_
        obtain rfl := Option.some.inj K
        exact jx_iret (pc := 66) rfl HQ
/-- AndGuestModel.toldOf(I)I -/
noncomputable def fM_toldOf (v1 : Int32) (h : jH) : Option Int32 :=
  (if jin (32 + (4 * v1)) 64 then
  some (h.1 141 (32 + (4 * v1)).toNatClampNeg : Int32)
  else none)
theorem kM_toldOf {X : jX} {dd : Nat} {p d : Nat} {q : Nat → Nat} {Q : Option Value → jS → Prop} {v1 : Int32} {h : jH}  (hd : 0 ≤ dd) {z : Int32} (K : fM_toldOf v1 h = some z) (HQ : Q (some (.int z)) (176, jRf p d q, h)) :
    jCa X dd 243 [.ref 110, .int v1] (176, jRf p d q, h) Q := by
  unfold fM_toldOf at K
  refine jCa_of (es := jc_243) (pl := [some (.ref 110), some (.int v1)]) (M := jm_243) rfl rfl rfl rfl ?_
  refine jx_next (pc := 0) (pc' := 1) rfl rfl ?_
  refine jx_getr2 (pc := 1) rfl jko_110 jr_12_39 ?_
  refine jx_next (pc := 4) (pc' := 6) rfl rfl ?_
  refine jx_next (pc := 6) (pc' := 7) rfl rfl ?_
  refine jx_next (pc := 7) (pc' := 8) rfl rfl ?_
  refine jx_next (pc := 8) (pc' := 9) rfl rfl ?_
  refine jx_next (pc := 9) (pc' := 10) rfl rfl ?_
  obtain ⟨hg1, K⟩ := jguard K
  refine jx_iald2 (pc := 10) rfl jko_141 jno_141 hg1 ?_
  obtain rfl := Option.some.inj K
  exact jx_iret (pc := 11) rfl HQ
/-- AndGuestModel.tensOf(I)I -/
noncomputable def fM_tensOf (v1 : Int32) (h : jH) : Option Int32 :=
  (Option.bind (fM_howOf v1 h) (fun (z1 : Int32) =>
  (if z1 = 1 then
  (Option.bind (fM_toldOf v1 h) (fun (z2 : Int32) =>
  some (z2 : Int32)))
  else
  (if z1 = 2 then
  some (10 : Int32)
  else
  (if z1 = 3 then
  some (0 : Int32)
  else
  (if z1 = 4 then
  (if jin 3 6 then
  some (h.1 144 (3 : Int32).toNatClampNeg : Int32)
  else none)
  else
  some (0 : Int32)))))))
theorem kM_tensOf {X : jX} {dd : Nat} {p d : Nat} {q : Nat → Nat} {Q : Option Value → jS → Prop} {v1 : Int32} {h : jH}  (hd : 1 ≤ dd) {z : Int32} (K : fM_tensOf v1 h = some z) (HQ : Q (some (.int z)) (176, jRf p d q, h)) :
    jCa X dd 242 [.ref 110, .int v1] (176, jRf p d q, h) Q := by
  obtain ⟨dd, rfl⟩ : ∃ d9, dd = d9 + 1 := ⟨dd - 1, by omega⟩
  unfold fM_tensOf at K
  refine jCa_of (es := jc_242) (pl := [some (.ref 110), some (.int v1)]) (M := jm_242) rfl rfl rfl rfl ?_
  refine jx_next (pc := 0) (pc' := 1) rfl rfl ?_
  refine jx_next (pc := 1) (pc' := 2) rfl rfl ?_
  refine jx_callv (pc := 2) (o := 110) (rest := []) rfl ⟨by decide, by decide⟩ rfl jko_110 (Nat.le_of_ble_eq_true rfl) ?_
  obtain ⟨z1, hz_z1, K⟩ := Option.bind_eq_some_iff.mp K
  refine kM_howOf  (by omega) hz_z1 ?_
  refine jx_tsw (pc := 5) rfl ?_
  refine jx_sw1 (fun hc7 => ?_) (fun hc7 => ?_)
  · replace K := (if_pos hc7).symm.trans K
    refine jx_next (pc := 36) (pc' := 37) rfl rfl ?_
    refine jx_next (pc := 37) (pc' := 38) rfl rfl ?_
    refine jx_callv (pc := 38) (o := 110) (rest := []) rfl ⟨by decide, by decide⟩ rfl jko_110 (Nat.le_of_ble_eq_true rfl) ?_
    obtain ⟨z2, hz_z2, K⟩ := Option.bind_eq_some_iff.mp K
    refine kM_toldOf  (by omega) hz_z2 ?_
    obtain rfl := Option.some.inj K
    exact jx_iret (pc := 41) rfl HQ
  · replace K := (if_neg hc7).symm.trans K
    refine jx_sw1 (fun hc6 => ?_) (fun hc6 => ?_)
    · replace K := (if_pos hc6).symm.trans K
      refine jx_next (pc := 42) (pc' := 44) rfl rfl ?_
      obtain rfl := Option.some.inj K
      exact jx_iret (pc := 44) rfl HQ
    · replace K := (if_neg hc6).symm.trans K
      refine jx_sw1 (fun hc5 => ?_) (fun hc5 => ?_)
      · replace K := (if_pos hc5).symm.trans K
        refine jx_next (pc := 52) (pc' := 53) rfl rfl ?_
        obtain rfl := Option.some.inj K
        exact jx_iret (pc := 53) rfl HQ
      · replace K := (if_neg hc5).symm.trans K
        refine jx_sw1 (fun hc4 => ?_) (fun hc4 => ?_)
        · replace K := (if_pos hc4).symm.trans K
          refine jx_next (pc := 45) (pc' := 46) rfl rfl ?_
          refine jx_getr2 (pc := 46) rfl jko_110 jr_12_42 ?_
          refine jx_next (pc := 49) (pc' := 50) rfl rfl ?_
          obtain ⟨hg3, K⟩ := jguard K
          refine jx_iald2 (pc := 50) rfl jko_144 jno_144 hg3 ?_
          obtain rfl := Option.some.inj K
          exact jx_iret (pc := 51) rfl HQ
        · replace K := (if_neg hc4).symm.trans K
          refine jx_sw0 ?_
          refine jx_next (pc := 52) (pc' := 53) rfl rfl ?_
          obtain rfl := Option.some.inj K
          exact jx_iret (pc := 53) rfl HQ
/-- AndGuestModel.weeksOf(I)I -/
noncomputable def fM_weeksOf (v1 : Int32) (h : jH) : Option Int32 :=
  (if jin ((2 + (2 * v1)) + 1) 18 then
  some (h.1 148 ((2 + (2 * v1)) + 1).toNatClampNeg : Int32)
  else none)
theorem kM_weeksOf {X : jX} {dd : Nat} {p d : Nat} {q : Nat → Nat} {Q : Option Value → jS → Prop} {v1 : Int32} {h : jH}  (hd : 0 ≤ dd) {z : Int32} (K : fM_weeksOf v1 h = some z) (HQ : Q (some (.int z)) (176, jRf p d q, h)) :
    jCa X dd 245 [.ref 110, .int v1] (176, jRf p d q, h) Q := by
  unfold fM_weeksOf at K
  refine jCa_of (es := jc_245) (pl := [some (.ref 110), some (.int v1)]) (M := jm_245) rfl rfl rfl rfl ?_
  refine jx_next (pc := 0) (pc' := 1) rfl rfl ?_
  refine jx_getr2 (pc := 1) rfl jko_110 jr_12_50 ?_
  refine jx_next (pc := 4) (pc' := 5) rfl rfl ?_
  refine jx_next (pc := 5) (pc' := 6) rfl rfl ?_
  refine jx_next (pc := 6) (pc' := 7) rfl rfl ?_
  refine jx_next (pc := 7) (pc' := 8) rfl rfl ?_
  refine jx_next (pc := 8) (pc' := 9) rfl rfl ?_
  refine jx_next (pc := 9) (pc' := 10) rfl rfl ?_
  refine jx_next (pc := 10) (pc' := 11) rfl rfl ?_
  obtain ⟨hg1, K⟩ := jguard K
  refine jx_iald2 (pc := 11) rfl jko_148 jno_148 hg1 ?_
  obtain rfl := Option.some.inj K
  exact jx_iret (pc := 12) rfl HQ
/-- AndGuestModel.qPuts(J)V -/
noncomputable def fM_qPuts (v1 : Int64) (h : jH) : Option jH :=
  (if jin (h.1 110 86) 1700 then
  some (jhI (jhL h 175 (h.1 110 86).toNatClampNeg v1) 110 86 (((jhL h 175 (h.1 110 86).toNatClampNeg v1).1 110 86) + 1))
  else none)
theorem kM_qPuts {X : jX} {dd : Nat} {p d : Nat} {q : Nat → Nat} {Q : Option Value → jS → Prop} {v1 : Int64} {h : jH}  (hd : 0 ≤ dd) {z : jH} (K : fM_qPuts v1 h = some z) (HQ : Q none (176, jRf p d q, z)) :
    jCa X dd 247 [.ref 110, .long v1] (176, jRf p d q, h) Q := by
  unfold fM_qPuts at K
  refine jCa_of (es := jc_247) (pl := [some (.ref 110), some (.long v1), none]) (M := jm_247) rfl rfl rfl rfl ?_
  refine jx_next (pc := 0) (pc' := 1) rfl rfl ?_
  refine jx_getr2 (pc := 1) rfl jko_110 jr_12_85 ?_
  refine jx_next (pc := 4) (pc' := 5) rfl rfl ?_
  refine jx_geti (pc := 5) rfl jko_110 ?_
  refine jx_next (pc := 8) (pc' := 9) rfl rfl ?_
  obtain ⟨hg1, K⟩ := jguard K
  refine jx_last2 (pc := 9) rfl jko_175 jno_175 hg1 ?_
  refine jx_next (pc := 10) (pc' := 11) rfl rfl ?_
  refine jx_next (pc := 11) (pc' := 12) rfl rfl ?_
  refine jx_geti (pc := 12) rfl jko_110 ?_
  refine jx_next (pc := 15) (pc' := 16) rfl rfl ?_
  refine jx_next (pc := 16) (pc' := 17) rfl rfl ?_
  refine jx_puti (pc := 17) rfl jko_110 ?_
  obtain rfl := Option.some.inj K
  exact jx_ret (pc := 20) rfl rfl HQ
/-- AndGuestModel.joyOf(I)I -/
noncomputable def fM_joyOf (v1 : Int32) (h : jH) : Option Int32 :=
  (if jin (33 + (4 * v1)) 64 then
  some (h.1 141 (33 + (4 * v1)).toNatClampNeg : Int32)
  else none)
theorem kM_joyOf {X : jX} {dd : Nat} {p d : Nat} {q : Nat → Nat} {Q : Option Value → jS → Prop} {v1 : Int32} {h : jH}  (hd : 0 ≤ dd) {z : Int32} (K : fM_joyOf v1 h = some z) (HQ : Q (some (.int z)) (176, jRf p d q, h)) :
    jCa X dd 249 [.ref 110, .int v1] (176, jRf p d q, h) Q := by
  unfold fM_joyOf at K
  refine jCa_of (es := jc_249) (pl := [some (.ref 110), some (.int v1)]) (M := jm_249) rfl rfl rfl rfl ?_
  refine jx_next (pc := 0) (pc' := 1) rfl rfl ?_
  refine jx_getr2 (pc := 1) rfl jko_110 jr_12_39 ?_
  refine jx_next (pc := 4) (pc' := 6) rfl rfl ?_
  refine jx_next (pc := 6) (pc' := 7) rfl rfl ?_
  refine jx_next (pc := 7) (pc' := 8) rfl rfl ?_
  refine jx_next (pc := 8) (pc' := 9) rfl rfl ?_
  refine jx_next (pc := 9) (pc' := 10) rfl rfl ?_
  obtain ⟨hg1, K⟩ := jguard K
  refine jx_iald2 (pc := 10) rfl jko_141 jno_141 hg1 ?_
  obtain rfl := Option.some.inj K
  exact jx_iret (pc := 11) rfl HQ
/-- AndGuestModel.qPartOf(II)J -/
noncomputable def fM_qPartOf (v1 : Int32) (v2 : Int32) (h : jH) : Option Int64 :=
  (if v1 = 0 then
  (Option.bind (fM_isAsked v2 h) (fun (z1 : Int32) =>
  (if z1 = 0 then
  some (0 : Int64)
  else
  (Option.bind (fM_weeksOf v2 h) (fun (z3 : Int32) =>
  some (z3.toInt64 : Int64))))))
  else
  (if v1 = 1 then
  (if jin (35 + (4 * v2)) 64 then
  some ((h.1 141 (35 + (4 * v2)).toNatClampNeg).toInt64 : Int64)
  else none)
  else
  (if v1 = 2 then
  (Option.bind (fM_joyOf v2 h) (fun (z5 : Int32) =>
  some (z5.toInt64 : Int64)))
  else
  (if v1 = 3 then
  (Option.bind (fM_sizeOf v2 h) (fun (z6 : Int32) =>
  some (z6.toInt64 : Int64)))
  else
  (if v1 = 4 then
  some (v2.toInt64 : Int64)
  else
  (if v1 = 5 then
  (Option.bind (fM_howOf v2 h) (fun (z7 : Int32) =>
  some (z7.toInt64 : Int64)))
  else
  (Option.bind (fM_isAsked v2 h) (fun (z8 : Int32) =>
  (if z8 = 0 then
  (Option.bind (fM_toldOf v2 h) (fun (z10 : Int32) =>
  some (z10.toInt64 : Int64)))
  else
  (Option.bind (fM_tensOf v2 h) (fun (z11 : Int32) =>
  some (z11.toInt64 : Int64))))))))))))
theorem kM_qPartOf {X : jX} {dd : Nat} {p d : Nat} {q : Nat → Nat} {Q : Option Value → jS → Prop} {v1 : Int32} {v2 : Int32} {h : jH}  (hd : 2 ≤ dd) {z : Int64} (K : fM_qPartOf v1 v2 h = some z) (HQ : Q (some (.long z)) (176, jRf p d q, h)) :
    jCa X dd 248 [.ref 110, .int v1, .int v2] (176, jRf p d q, h) Q := by
  obtain ⟨dd, rfl⟩ : ∃ d9, dd = d9 + 1 := ⟨dd - 1, by omega⟩
  unfold fM_qPartOf at K
  refine jCa_of (es := jc_248) (pl := [some (.ref 110), some (.int v1), some (.int v2)]) (M := jm_248) rfl rfl rfl rfl ?_
  refine jx_next (pc := 0) (pc' := 1) rfl rfl ?_
  refine jx_tsw (pc := 1) rfl ?_
  refine jx_sw1 (fun hc17 => ?_) (fun hc17 => ?_)
  · replace K := (if_pos hc17).symm.trans K
    refine jx_next (pc := 40) (pc' := 41) rfl rfl ?_
    refine jx_next (pc := 41) (pc' := 42) rfl rfl ?_
    refine jx_callv (pc := 42) (o := 110) (rest := []) rfl ⟨by decide, by decide⟩ rfl jko_110 (Nat.le_of_ble_eq_true rfl) ?_
    obtain ⟨z1, hz_z1, K⟩ := Option.bind_eq_some_iff.mp K
    refine kM_isAsked  (by omega) hz_z1 ?_
    refine jx_ifeq (pc := 45) rfl (fun hc2 => ?_) (fun hc2 => ?_)
    · replace K := (if_pos hc2).symm.trans K
      refine jx_next (pc := 57) (pc' := 58) rfl rfl ?_
      obtain rfl := Option.some.inj K
      exact jx_ret (pc := 58) rfl rfl HQ
    · replace K := (if_neg hc2).symm.trans K
      refine jx_next (pc := 48) (pc' := 49) rfl rfl ?_
      refine jx_next (pc := 49) (pc' := 50) rfl rfl ?_
      refine jx_callv (pc := 50) (o := 110) (rest := []) rfl ⟨by decide, by decide⟩ rfl jko_110 (Nat.le_of_ble_eq_true rfl) ?_
      obtain ⟨z3, hz_z3, K⟩ := Option.bind_eq_some_iff.mp K
      refine kM_weeksOf  (by omega) hz_z3 ?_
      refine jx_next (pc := 53) (pc' := 54) rfl rfl ?_
      refine jx_next (pc := 54) (pc' := 58) rfl rfl ?_
      obtain rfl := Option.some.inj K
      exact jx_ret (pc := 58) rfl rfl HQ
  · replace K := (if_neg hc17).symm.trans K
    refine jx_sw1 (fun hc16 => ?_) (fun hc16 => ?_)
    · replace K := (if_pos hc16).symm.trans K
      refine jx_next (pc := 59) (pc' := 60) rfl rfl ?_
      refine jx_getr2 (pc := 60) rfl jko_110 jr_12_39 ?_
      refine jx_next (pc := 63) (pc' := 65) rfl rfl ?_
      refine jx_next (pc := 65) (pc' := 66) rfl rfl ?_
      refine jx_next (pc := 66) (pc' := 67) rfl rfl ?_
      refine jx_next (pc := 67) (pc' := 68) rfl rfl ?_
      refine jx_next (pc := 68) (pc' := 69) rfl rfl ?_
      obtain ⟨hg4, K⟩ := jguard K
      refine jx_iald2 (pc := 69) rfl jko_141 jno_141 hg4 ?_
      refine jx_next (pc := 70) (pc' := 71) rfl rfl ?_
      obtain rfl := Option.some.inj K
      exact jx_ret (pc := 71) rfl rfl HQ
    · replace K := (if_neg hc16).symm.trans K
      refine jx_sw1 (fun hc15 => ?_) (fun hc15 => ?_)
      · replace K := (if_pos hc15).symm.trans K
        refine jx_next (pc := 72) (pc' := 73) rfl rfl ?_
        refine jx_next (pc := 73) (pc' := 74) rfl rfl ?_
        refine jx_callv (pc := 74) (o := 110) (rest := []) rfl ⟨by decide, by decide⟩ rfl jko_110 (Nat.le_of_ble_eq_true rfl) ?_
        obtain ⟨z5, hz_z5, K⟩ := Option.bind_eq_some_iff.mp K
        refine kM_joyOf  (by omega) hz_z5 ?_
        refine jx_next (pc := 77) (pc' := 78) rfl rfl ?_
        obtain rfl := Option.some.inj K
        exact jx_ret (pc := 78) rfl rfl HQ
      · replace K := (if_neg hc15).symm.trans K
        refine jx_sw1 (fun hc14 => ?_) (fun hc14 => ?_)
        · replace K := (if_pos hc14).symm.trans K
          refine jx_next (pc := 79) (pc' := 80) rfl rfl ?_
          refine jx_next (pc := 80) (pc' := 81) rfl rfl ?_
          refine jx_callv (pc := 81) (o := 110) (rest := []) rfl ⟨by decide, by decide⟩ rfl jko_110 (Nat.le_of_ble_eq_true rfl) ?_
          obtain ⟨z6, hz_z6, K⟩ := Option.bind_eq_some_iff.mp K
          refine kM_sizeOf  (by omega) hz_z6 ?_
          refine jx_next (pc := 84) (pc' := 85) rfl rfl ?_
          obtain rfl := Option.some.inj K
          exact jx_ret (pc := 85) rfl rfl HQ
        · replace K := (if_neg hc14).symm.trans K
          refine jx_sw1 (fun hc13 => ?_) (fun hc13 => ?_)
          · replace K := (if_pos hc13).symm.trans K
            refine jx_next (pc := 86) (pc' := 87) rfl rfl ?_
            refine jx_next (pc := 87) (pc' := 88) rfl rfl ?_
            obtain rfl := Option.some.inj K
            exact jx_ret (pc := 88) rfl rfl HQ
          · replace K := (if_neg hc13).symm.trans K
            refine jx_sw1 (fun hc12 => ?_) (fun hc12 => ?_)
            · replace K := (if_pos hc12).symm.trans K
              refine jx_next (pc := 89) (pc' := 90) rfl rfl ?_
              refine jx_next (pc := 90) (pc' := 91) rfl rfl ?_
              refine jx_callv (pc := 91) (o := 110) (rest := []) rfl ⟨by decide, by decide⟩ rfl jko_110 (Nat.le_of_ble_eq_true rfl) ?_
              obtain ⟨z7, hz_z7, K⟩ := Option.bind_eq_some_iff.mp K
              refine kM_howOf  (by omega) hz_z7 ?_
              refine jx_next (pc := 94) (pc' := 95) rfl rfl ?_
              obtain rfl := Option.some.inj K
              exact jx_ret (pc := 95) rfl rfl HQ
            · replace K := (if_neg hc12).symm.trans K
              refine jx_sw0 ?_
              refine jx_next (pc := 96) (pc' := 97) rfl rfl ?_
              refine jx_next (pc := 97) (pc' := 98) rfl rfl ?_
              refine jx_callv (pc := 98) (o := 110) (rest := []) rfl ⟨by decide, by decide⟩ rfl jko_110 (Nat.le_of_ble_eq_true rfl) ?_
              obtain ⟨z8, hz_z8, K⟩ := Option.bind_eq_some_iff.mp K
              refine kM_isAsked  (by omega) hz_z8 ?_
              refine jx_ifeq (pc := 101) rfl (fun hc9 => ?_) (fun hc9 => ?_)
              · replace K := (if_pos hc9).symm.trans K
                refine jx_next (pc := 113) (pc' := 114) rfl rfl ?_
                refine jx_next (pc := 114) (pc' := 115) rfl rfl ?_
                refine jx_callv (pc := 115) (o := 110) (rest := []) rfl ⟨by decide, by decide⟩ rfl jko_110 (Nat.le_of_ble_eq_true rfl) ?_
                obtain ⟨z10, hz_z10, K⟩ := Option.bind_eq_some_iff.mp K
                refine kM_toldOf  (by omega) hz_z10 ?_
                refine jx_next (pc := 118) (pc' := 119) rfl rfl ?_
                obtain rfl := Option.some.inj K
                exact jx_ret (pc := 119) rfl rfl HQ
              · replace K := (if_neg hc9).symm.trans K
                refine jx_next (pc := 104) (pc' := 105) rfl rfl ?_
                refine jx_next (pc := 105) (pc' := 106) rfl rfl ?_
                refine jx_callv (pc := 106) (o := 110) (rest := []) rfl ⟨by decide, by decide⟩ rfl jko_110 (Nat.le_of_ble_eq_true rfl) ?_
                obtain ⟨z11, hz_z11, K⟩ := Option.bind_eq_some_iff.mp K
                refine kM_tensOf  (by omega) hz_z11 ?_
                refine jx_next (pc := 109) (pc' := 110) rfl rfl ?_
                refine jx_next (pc := 110) (pc' := 119) rfl rfl ?_
                obtain rfl := Option.some.inj K
                exact jx_ret (pc := 119) rfl rfl HQ
/-- AndGuestModel.qClip(J)J -/
noncomputable def fM_qClip (v0 : Int64) : Int64 :=
  (if 1000000 < v0 then
  (1000000 : Int64)
  else
  (if v0 < (-1000000) then
  ((-1000000) : Int64)
  else
  (v0 : Int64)))
theorem kM_qClip {X : jX} {dd : Nat} {p d : Nat} {q : Nat → Nat} {Q : Option Value → jS → Prop} {v0 : Int64} {h : jH}  (hd : 0 ≤ dd) {z : Int64} (K : fM_qClip v0 = z) (HQ : Q (some (.long z)) (176, jRf p d q, h)) :
    jCa X dd 251 [.long v0] (176, jRf p d q, h) Q := by
  unfold fM_qClip at K
  refine jCa_of (es := jc_251) (pl := [some (.long v0), none]) (M := jm_251) rfl rfl rfl rfl ?_
  refine jx_next (pc := 0) (pc' := 1) rfl rfl ?_
  refine jx_next (pc := 1) (pc' := 4) rfl rfl ?_
  refine jx_lcle (pc := 4) rfl rfl (fun hc1 => ?_) (fun hc1 => ?_)
  · replace K := (if_pos hc1).symm.trans K
    refine jx_next (pc := 8) (pc' := 11) rfl rfl ?_
    refine jx_next (pc := 11) (pc' := 29) rfl rfl ?_
    obtain rfl := K
    exact jx_ret (pc := 29) rfl rfl HQ
  · replace K := (if_neg hc1).symm.trans K
    refine jx_next (pc := 14) (pc' := 15) rfl rfl ?_
    refine jx_next (pc := 15) (pc' := 18) rfl rfl ?_
    refine jx_lcge (pc := 18) rfl rfl (fun hc2 => ?_) (fun hc2 => ?_)
    · replace K := (if_pos hc2).symm.trans K
      refine jx_next (pc := 22) (pc' := 25) rfl rfl ?_
      refine jx_next (pc := 25) (pc' := 29) rfl rfl ?_
      obtain rfl := K
      exact jx_ret (pc := 29) rfl rfl HQ
    · replace K := (if_neg hc2).symm.trans K
      refine jx_next (pc := 28) (pc' := 29) rfl rfl ?_
      obtain rfl := K
      exact jx_ret (pc := 29) rfl rfl HQ
noncomputable def fM_qFloor_j43 (v4 : Int64) (s0 : Int32) (s1 : Int32) (h : jH) : Option Int64 :=
  (if s0 = s1 then
  some (v4 : Int64)
  else
  some (v4 - 1 : Int64))
theorem kM_qFloor_j43 {X : jX} {dd : Nat} {p d : Nat} {q : Nat → Nat} {Q : Option Value → jS → Prop} {v4 : Int64} {s0 : Int32} {s1 : Int32} {h : jH}  (hd : 0 ≤ dd) {z : Int64} (K : fM_qFloor_j43 v4 s0 s1 h = some z) (HQ : Q (some (.long z)) (176, jRf p d q, h)) :
    jEx X dd jc_252 43 [none, none, none, none, some (.long v4), none] [.int s1, .int s0] (176, jRf p d q, h) Q := by
  unfold fM_qFloor_j43 at K
  refine jx_iceq (pc := 43) rfl (fun hc5 => ?_) (fun hc5 => ?_)
  · replace K := (if_pos hc5).symm.trans K
    refine jx_next (pc := 53) (pc' := 55) rfl rfl ?_
    obtain rfl := Option.some.inj K
    exact jx_ret (pc := 55) rfl rfl HQ
  · replace K := (if_neg hc5).symm.trans K
    refine jx_next (pc := 46) (pc' := 48) rfl rfl ?_
    refine jx_next (pc := 48) (pc' := 49) rfl rfl ?_
    refine jx_next (pc := 49) (pc' := 50) rfl rfl ?_
    refine jx_next (pc := 50) (pc' := 55) rfl rfl ?_
    obtain rfl := Option.some.inj K
    exact jx_ret (pc := 55) rfl rfl HQ
noncomputable def fM_qFloor_j32 (v2 : Int64) (v4 : Int64) (s0 : Int32) (h : jH) : Option Int64 :=
  (if v2 < 0 then
  fM_qFloor_j43  v4 s0 1 h
  else
  fM_qFloor_j43  v4 s0 0 h)
theorem kM_qFloor_j32 {X : jX} {dd : Nat} {p d : Nat} {q : Nat → Nat} {Q : Option Value → jS → Prop} {v2 : Int64} {v4 : Int64} {s0 : Int32} {h : jH}  (hd : 0 ≤ dd) {z : Int64} (K : fM_qFloor_j32 v2 v4 s0 h = some z) (HQ : Q (some (.long z)) (176, jRf p d q, h)) :
    jEx X dd jc_252 32 [none, none, some (.long v2), none, some (.long v4), none] [.int s0] (176, jRf p d q, h) Q := by
  unfold fM_qFloor_j32 at K
  refine jx_next (pc := 32) (pc' := 33) rfl rfl ?_
  refine jx_next (pc := 33) (pc' := 34) rfl rfl ?_
  refine jx_lcge (pc := 34) rfl rfl (fun hc4 => ?_) (fun hc4 => ?_)
  · replace K := (if_pos hc4).symm.trans K
    refine jx_next (pc := 38) (pc' := 39) rfl rfl ?_
    refine jx_next (pc := 39) (pc' := 43) rfl rfl ?_
    refine jx_le (pl' := [none, none, none, none, some (.long v4), none]) (jle_n (jle_n (jle_n (jle_n (jle_v (jle_n jle_nil)))))) ?_
    exact kM_qFloor_j43  hd K HQ
  · replace K := (if_neg hc4).symm.trans K
    refine jx_next (pc := 42) (pc' := 43) rfl rfl ?_
    refine jx_le (pl' := [none, none, none, none, some (.long v4), none]) (jle_n (jle_n (jle_n (jle_n (jle_v (jle_n jle_nil)))))) ?_
    exact kM_qFloor_j43  hd K HQ
/-- AndGuestModel.qFloor(JJ)J -/
noncomputable def fM_qFloor (v0 : Int64) (v2 : Int64) (h : jH) : Option Int64 :=
  (if v2 = 0 then
  some (0 : Int64)
  else
  (if ¬ v2 = 0 then
  (if ¬ v2 = 0 then
  (if (v0 - v0 / v2 * v2) = 0 then
  some (v0 / v2 : Int64)
  else
  (if v0 < 0 then
  fM_qFloor_j32  v2 (v0 / v2) 1 h
  else
  fM_qFloor_j32  v2 (v0 / v2) 0 h))
  else none)
  else none))
theorem kM_qFloor {X : jX} {dd : Nat} {p d : Nat} {q : Nat → Nat} {Q : Option Value → jS → Prop} {v0 : Int64} {v2 : Int64} {h : jH}  (hd : 0 ≤ dd) {z : Int64} (K : fM_qFloor v0 v2 h = some z) (HQ : Q (some (.long z)) (176, jRf p d q, h)) :
    jCa X dd 252 [.long v0, .long v2] (176, jRf p d q, h) Q := by
  unfold fM_qFloor at K
  refine jCa_of (es := jc_252) (pl := [some (.long v0), none, some (.long v2), none, none, none]) (M := jm_252) rfl rfl rfl rfl ?_
  refine jx_next (pc := 0) (pc' := 1) rfl rfl ?_
  refine jx_next (pc := 1) (pc' := 2) rfl rfl ?_
  refine jx_lcne (pc := 2) rfl rfl (fun hc1 => ?_) (fun hc1 => ?_)
  · replace K := (if_pos hc1).symm.trans K
    refine jx_next (pc := 6) (pc' := 7) rfl rfl ?_
    obtain rfl := Option.some.inj K
    exact jx_ret (pc := 7) rfl rfl HQ
  · replace K := (if_neg hc1).symm.trans K
    refine jx_next (pc := 8) (pc' := 9) rfl rfl ?_
    refine jx_next (pc := 9) (pc' := 10) rfl rfl ?_
    obtain ⟨hg, K⟩ := jguard K
    refine jx_ldiv (pc := 10) rfl hg ?_
    refine jx_stl (pc := 11) (p2 := [some (.long v0), none, some (.long v2), none, some (.long (v0 / v2)), none]) rfl (jlt rfl) rfl ?_
    refine jx_next (pc := 13) (pc' := 14) rfl rfl ?_
    refine jx_next (pc := 14) (pc' := 15) rfl rfl ?_
    obtain ⟨hg, K⟩ := jguard K
    refine jx_lrem (pc := 15) rfl hg ?_
    refine jx_next (pc := 16) (pc' := 17) rfl rfl ?_
    refine jx_lceq (pc := 17) rfl rfl (fun hc2 => ?_) (fun hc2 => ?_)
    · replace K := (if_pos hc2).symm.trans K
      refine jx_next (pc := 53) (pc' := 55) rfl rfl ?_
      obtain rfl := Option.some.inj K
      exact jx_ret (pc := 55) rfl rfl HQ
    · replace K := (if_neg hc2).symm.trans K
      refine jx_next (pc := 21) (pc' := 22) rfl rfl ?_
      refine jx_next (pc := 22) (pc' := 23) rfl rfl ?_
      refine jx_lcge (pc := 23) rfl rfl (fun hc3 => ?_) (fun hc3 => ?_)
      · replace K := (if_pos hc3).symm.trans K
        refine jx_next (pc := 27) (pc' := 28) rfl rfl ?_
        refine jx_next (pc := 28) (pc' := 32) rfl rfl ?_
        refine jx_le (pl' := [none, none, some (.long v2), none, some (.long (v0 / v2)), none]) (jle_n (jle_n (jle_v (jle_n (jle_v (jle_n jle_nil)))))) ?_
        exact kM_qFloor_j32  hd K HQ
      · replace K := (if_neg hc3).symm.trans K
        refine jx_next (pc := 31) (pc' := 32) rfl rfl ?_
        refine jx_le (pl' := [none, none, some (.long v2), none, some (.long (v0 / v2)), none]) (jle_n (jle_n (jle_v (jle_n (jle_v (jle_n jle_nil)))))) ?_
        exact kM_qFloor_j32  hd K HQ
noncomputable def fM_qJoins_j161 (s1 : Int64) (h : jH) : Option jH :=
  (Option.bind (fM_qPuts s1 h) (fun (z12 : jH) =>
  some z12))
theorem kM_qJoins_j161 {X : jX} {dd : Nat} {p d : Nat} {q : Nat → Nat} {Q : Option Value → jS → Prop} {s1 : Int64} {h : jH}  (hd : 1 ≤ (dd + 1)) {z : jH} (K : fM_qJoins_j161 s1 h = some z) (HQ : Q none (176, jRf p d q, z)) :
    jEx X (dd + 1) jc_250 161 [none, none, none, none, none, none] [.long s1, .ref 110] (176, jRf p d q, h) Q := by
  unfold fM_qJoins_j161 at K
  refine jx_callv (pc := 161) (o := 110) (rest := []) rfl ⟨by decide, by decide⟩ rfl jko_110 (Nat.le_of_ble_eq_true rfl) ?_
  obtain ⟨z12, hz_z12, K⟩ := Option.bind_eq_some_iff.mp K
  refine kM_qPuts  (by omega) hz_z12 ?_
  refine jx_next (pc := 164) (pc' := 273) rfl rfl ?_
  obtain rfl := Option.some.inj K
  exact jx_ret (pc := 273) rfl rfl HQ
noncomputable def fM_qJoins_j181 (s1 : Int64) (h : jH) : Option jH :=
  (Option.bind (fM_qPuts s1 h) (fun (z14 : jH) =>
  some z14))
theorem kM_qJoins_j181 {X : jX} {dd : Nat} {p d : Nat} {q : Nat → Nat} {Q : Option Value → jS → Prop} {s1 : Int64} {h : jH}  (hd : 1 ≤ (dd + 1)) {z : jH} (K : fM_qJoins_j181 s1 h = some z) (HQ : Q none (176, jRf p d q, z)) :
    jEx X (dd + 1) jc_250 181 [none, none, none, none, none, none] [.long s1, .ref 110] (176, jRf p d q, h) Q := by
  unfold fM_qJoins_j181 at K
  refine jx_callv (pc := 181) (o := 110) (rest := []) rfl ⟨by decide, by decide⟩ rfl jko_110 (Nat.le_of_ble_eq_true rfl) ?_
  obtain ⟨z14, hz_z14, K⟩ := Option.bind_eq_some_iff.mp K
  refine kM_qPuts  (by omega) hz_z14 ?_
  refine jx_next (pc := 184) (pc' := 273) rfl rfl ?_
  obtain rfl := Option.some.inj K
  exact jx_ret (pc := 273) rfl rfl HQ
noncomputable def fM_qJoins_j200 (s1 : Int64) (h : jH) : Option jH :=
  (Option.bind (fM_qPuts s1 h) (fun (z16 : jH) =>
  some z16))
theorem kM_qJoins_j200 {X : jX} {dd : Nat} {p d : Nat} {q : Nat → Nat} {Q : Option Value → jS → Prop} {s1 : Int64} {h : jH}  (hd : 1 ≤ (dd + 1)) {z : jH} (K : fM_qJoins_j200 s1 h = some z) (HQ : Q none (176, jRf p d q, z)) :
    jEx X (dd + 1) jc_250 200 [none, none, none, none, none, none] [.long s1, .ref 110] (176, jRf p d q, h) Q := by
  unfold fM_qJoins_j200 at K
  refine jx_callv (pc := 200) (o := 110) (rest := []) rfl ⟨by decide, by decide⟩ rfl jko_110 (Nat.le_of_ble_eq_true rfl) ?_
  obtain ⟨z16, hz_z16, K⟩ := Option.bind_eq_some_iff.mp K
  refine kM_qPuts  (by omega) hz_z16 ?_
  refine jx_next (pc := 203) (pc' := 273) rfl rfl ?_
  obtain rfl := Option.some.inj K
  exact jx_ret (pc := 273) rfl rfl HQ
noncomputable def fM_qJoins_j219 (s1 : Int64) (h : jH) : Option jH :=
  (Option.bind (fM_qPuts s1 h) (fun (z18 : jH) =>
  some z18))
theorem kM_qJoins_j219 {X : jX} {dd : Nat} {p d : Nat} {q : Nat → Nat} {Q : Option Value → jS → Prop} {s1 : Int64} {h : jH}  (hd : 1 ≤ (dd + 1)) {z : jH} (K : fM_qJoins_j219 s1 h = some z) (HQ : Q none (176, jRf p d q, z)) :
    jEx X (dd + 1) jc_250 219 [none, none, none, none, none, none] [.long s1, .ref 110] (176, jRf p d q, h) Q := by
  unfold fM_qJoins_j219 at K
  refine jx_callv (pc := 219) (o := 110) (rest := []) rfl ⟨by decide, by decide⟩ rfl jko_110 (Nat.le_of_ble_eq_true rfl) ?_
  obtain ⟨z18, hz_z18, K⟩ := Option.bind_eq_some_iff.mp K
  refine kM_qPuts  (by omega) hz_z18 ?_
  refine jx_next (pc := 222) (pc' := 273) rfl rfl ?_
  obtain rfl := Option.some.inj K
  exact jx_ret (pc := 273) rfl rfl HQ
noncomputable def fM_qJoins_j238 (s1 : Int64) (h : jH) : Option jH :=
  (Option.bind (fM_qPuts s1 h) (fun (z20 : jH) =>
  some z20))
theorem kM_qJoins_j238 {X : jX} {dd : Nat} {p d : Nat} {q : Nat → Nat} {Q : Option Value → jS → Prop} {s1 : Int64} {h : jH}  (hd : 1 ≤ (dd + 1)) {z : jH} (K : fM_qJoins_j238 s1 h = some z) (HQ : Q none (176, jRf p d q, z)) :
    jEx X (dd + 1) jc_250 238 [none, none, none, none, none, none] [.long s1, .ref 110] (176, jRf p d q, h) Q := by
  unfold fM_qJoins_j238 at K
  refine jx_callv (pc := 238) (o := 110) (rest := []) rfl ⟨by decide, by decide⟩ rfl jko_110 (Nat.le_of_ble_eq_true rfl) ?_
  obtain ⟨z20, hz_z20, K⟩ := Option.bind_eq_some_iff.mp K
  refine kM_qPuts  (by omega) hz_z20 ?_
  refine jx_next (pc := 241) (pc' := 273) rfl rfl ?_
  obtain rfl := Option.some.inj K
  exact jx_ret (pc := 273) rfl rfl HQ
noncomputable def fM_qJoins_j270 (s1 : Int64) (h : jH) : Option jH :=
  (Option.bind (fM_qPuts s1 h) (fun (z23 : jH) =>
  some z23))
theorem kM_qJoins_j270 {X : jX} {dd : Nat} {p d : Nat} {q : Nat → Nat} {Q : Option Value → jS → Prop} {s1 : Int64} {h : jH}  (hd : 1 ≤ (dd + 1)) {z : jH} (K : fM_qJoins_j270 s1 h = some z) (HQ : Q none (176, jRf p d q, z)) :
    jEx X (dd + 1) jc_250 270 [none, none, none, none, none, none] [.long s1, .ref 110] (176, jRf p d q, h) Q := by
  unfold fM_qJoins_j270 at K
  refine jx_callv (pc := 270) (o := 110) (rest := []) rfl ⟨by decide, by decide⟩ rfl jko_110 (Nat.le_of_ble_eq_true rfl) ?_
  obtain ⟨z23, hz_z23, K⟩ := Option.bind_eq_some_iff.mp K
  refine kM_qPuts  (by omega) hz_z23 ?_
  obtain rfl := Option.some.inj K
  exact jx_ret (pc := 273) rfl rfl HQ
/-- AndGuestModel.qJoins(I)V -/
noncomputable def fM_qJoins (v1 : Int32) (h : jH) : Option jH :=
  (if jin ((h.1 110 86) - 1) 1700 then
  (if jin ((h.1 110 86) - 2) 1700 then
  (if v1 = 1 then
  (Option.bind (fM_qPuts (fM_qClip ((h.2 175 ((h.1 110 86) - 2).toNatClampNeg) + (h.2 175 ((h.1 110 86) - 1).toNatClampNeg))) (jhI h 110 86 ((h.1 110 86) - 2))) (fun (z4 : jH) =>
  some z4))
  else
  (if v1 = 2 then
  (Option.bind (fM_qPuts (fM_qClip ((h.2 175 ((h.1 110 86) - 2).toNatClampNeg) - (h.2 175 ((h.1 110 86) - 1).toNatClampNeg))) (jhI h 110 86 ((h.1 110 86) - 2))) (fun (z6 : jH) =>
  some z6))
  else
  (if v1 = 3 then
  (Option.bind (fM_qPuts (fM_qClip ((h.2 175 ((h.1 110 86) - 2).toNatClampNeg) * (h.2 175 ((h.1 110 86) - 1).toNatClampNeg))) (jhI h 110 86 ((h.1 110 86) - 2))) (fun (z8 : jH) =>
  some z8))
  else
  (if v1 = 4 then
  (Option.bind (fM_qFloor (h.2 175 ((h.1 110 86) - 2).toNatClampNeg) (h.2 175 ((h.1 110 86) - 1).toNatClampNeg) (jhI h 110 86 ((h.1 110 86) - 2))) (fun (z9 : Int64) =>
  (Option.bind (fM_qPuts z9 (jhI h 110 86 ((h.1 110 86) - 2))) (fun (z10 : jH) =>
  some z10))))
  else
  (if v1 = 5 then
  (if (h.2 175 ((h.1 110 86) - 2).toNatClampNeg) < (h.2 175 ((h.1 110 86) - 1).toNatClampNeg) then
  fM_qJoins_j161  (h.2 175 ((h.1 110 86) - 2).toNatClampNeg) (jhI h 110 86 ((h.1 110 86) - 2))
  else
  fM_qJoins_j161  (h.2 175 ((h.1 110 86) - 1).toNatClampNeg) (jhI h 110 86 ((h.1 110 86) - 2)))
  else
  (if v1 = 6 then
  (if (h.2 175 ((h.1 110 86) - 1).toNatClampNeg) < (h.2 175 ((h.1 110 86) - 2).toNatClampNeg) then
  fM_qJoins_j181  (h.2 175 ((h.1 110 86) - 2).toNatClampNeg) (jhI h 110 86 ((h.1 110 86) - 2))
  else
  fM_qJoins_j181  (h.2 175 ((h.1 110 86) - 1).toNatClampNeg) (jhI h 110 86 ((h.1 110 86) - 2)))
  else
  (if v1 = 7 then
  (if (h.2 175 ((h.1 110 86) - 2).toNatClampNeg) < (h.2 175 ((h.1 110 86) - 1).toNatClampNeg) then
  fM_qJoins_j200  1 (jhI h 110 86 ((h.1 110 86) - 2))
  else
  fM_qJoins_j200  0 (jhI h 110 86 ((h.1 110 86) - 2)))
  else
  (if v1 = 8 then
  (if (h.2 175 ((h.1 110 86) - 1).toNatClampNeg) < (h.2 175 ((h.1 110 86) - 2).toNatClampNeg) then
  fM_qJoins_j219  1 (jhI h 110 86 ((h.1 110 86) - 2))
  else
  fM_qJoins_j219  0 (jhI h 110 86 ((h.1 110 86) - 2)))
  else
  (if v1 = 9 then
  (if (h.2 175 ((h.1 110 86) - 2).toNatClampNeg) = (h.2 175 ((h.1 110 86) - 1).toNatClampNeg) then
  fM_qJoins_j238  1 (jhI h 110 86 ((h.1 110 86) - 2))
  else
  fM_qJoins_j238  0 (jhI h 110 86 ((h.1 110 86) - 2)))
  else
  (if v1 = 10 then
  (Option.bind (fM_qPuts ((h.2 175 ((h.1 110 86) - 2).toNatClampNeg) * (h.2 175 ((h.1 110 86) - 1).toNatClampNeg)) (jhI h 110 86 ((h.1 110 86) - 2))) (fun (z21 : jH) =>
  some z21))
  else
  (if 0 < ((h.2 175 ((h.1 110 86) - 2).toNatClampNeg) + (h.2 175 ((h.1 110 86) - 1).toNatClampNeg)) then
  fM_qJoins_j270  1 (jhI h 110 86 ((h.1 110 86) - 2))
  else
  fM_qJoins_j270  0 (jhI h 110 86 ((h.1 110 86) - 2)))))))))))))
  else none)
  else none)
theorem kM_qJoins {X : jX} {dd : Nat} {p d : Nat} {q : Nat → Nat} {Q : Option Value → jS → Prop} {v1 : Int32} {h : jH}  (hd : 1 ≤ dd) {z : jH} (K : fM_qJoins v1 h = some z) (HQ : Q none (176, jRf p d q, z)) :
    jCa X dd 250 [.ref 110, .int v1] (176, jRf p d q, h) Q := by
  obtain ⟨dd, rfl⟩ : ∃ d9, dd = d9 + 1 := ⟨dd - 1, by omega⟩
  unfold fM_qJoins at K
  refine jCa_of (es := jc_250) (pl := [some (.ref 110), some (.int v1), none, none, none, none]) (M := jm_250) rfl rfl rfl rfl ?_
  refine jx_next (pc := 0) (pc' := 1) rfl rfl ?_
  refine jx_getr2 (pc := 1) rfl jko_110 jr_12_85 ?_
  refine jx_next (pc := 4) (pc' := 5) rfl rfl ?_
  refine jx_geti (pc := 5) rfl jko_110 ?_
  refine jx_next (pc := 8) (pc' := 9) rfl rfl ?_
  refine jx_next (pc := 9) (pc' := 10) rfl rfl ?_
  obtain ⟨hg1, K⟩ := jguard K
  refine jx_lald2 (pc := 10) rfl jko_175 jno_175 hg1 ?_
  refine jx_stln (pc := 11) (p2 := [some (.ref 110), some (.int v1), some (.long (h.2 175 ((h.1 110 86) - 1).toNatClampNeg)), none, none, none]) rfl (jlt rfl) rfl ?_
  refine jx_next (pc := 12) (pc' := 13) rfl rfl ?_
  refine jx_getr2 (pc := 13) rfl jko_110 jr_12_85 ?_
  refine jx_next (pc := 16) (pc' := 17) rfl rfl ?_
  refine jx_geti (pc := 17) rfl jko_110 ?_
  refine jx_next (pc := 20) (pc' := 21) rfl rfl ?_
  refine jx_next (pc := 21) (pc' := 22) rfl rfl ?_
  obtain ⟨hg2, K⟩ := jguard K
  refine jx_lald2 (pc := 22) rfl jko_175 jno_175 hg2 ?_
  refine jx_stl (pc := 23) (p2 := [some (.ref 110), some (.int v1), some (.long (h.2 175 ((h.1 110 86) - 1).toNatClampNeg)), none, some (.long (h.2 175 ((h.1 110 86) - 2).toNatClampNeg)), none]) rfl (jlt rfl) rfl ?_
  refine jx_next (pc := 25) (pc' := 26) rfl rfl ?_
  refine jx_next (pc := 26) (pc' := 27) rfl rfl ?_
  refine jx_geti (pc := 27) rfl jko_110 ?_
  refine jx_next (pc := 30) (pc' := 31) rfl rfl ?_
  refine jx_next (pc := 31) (pc' := 32) rfl rfl ?_
  refine jx_puti (pc := 32) rfl jko_110 ?_
  refine jx_next (pc := 35) (pc' := 36) rfl rfl ?_
  refine jx_tsw (pc := 36) rfl ?_
  refine jx_sw1 (fun hc33 => ?_) (fun hc33 => ?_)
  · replace K := (if_pos hc33).symm.trans K
    refine jx_next (pc := 92) (pc' := 93) rfl rfl ?_
    refine jx_next (pc := 93) (pc' := 95) rfl rfl ?_
    refine jx_next (pc := 95) (pc' := 96) rfl rfl ?_
    refine jx_next (pc := 96) (pc' := 97) rfl rfl ?_
    refine jx_calls (pc := 97) rfl (Nat.le_of_ble_eq_true rfl) (Nat.le_of_ble_eq_true rfl) ?_
    refine kM_qClip  (by omega) rfl ?_
    refine jx_callv (pc := 100) (o := 110) (rest := []) rfl ⟨by decide, by decide⟩ rfl jko_110 (Nat.le_of_ble_eq_true rfl) ?_
    obtain ⟨z4, hz_z4, K⟩ := Option.bind_eq_some_iff.mp K
    refine kM_qPuts  (by omega) hz_z4 ?_
    refine jx_next (pc := 103) (pc' := 273) rfl rfl ?_
    obtain rfl := Option.some.inj K
    exact jx_ret (pc := 273) rfl rfl HQ
  · replace K := (if_neg hc33).symm.trans K
    refine jx_sw1 (fun hc32 => ?_) (fun hc32 => ?_)
    · replace K := (if_pos hc32).symm.trans K
      refine jx_next (pc := 106) (pc' := 107) rfl rfl ?_
      refine jx_next (pc := 107) (pc' := 109) rfl rfl ?_
      refine jx_next (pc := 109) (pc' := 110) rfl rfl ?_
      refine jx_next (pc := 110) (pc' := 111) rfl rfl ?_
      refine jx_calls (pc := 111) rfl (Nat.le_of_ble_eq_true rfl) (Nat.le_of_ble_eq_true rfl) ?_
      refine kM_qClip  (by omega) rfl ?_
      refine jx_callv (pc := 114) (o := 110) (rest := []) rfl ⟨by decide, by decide⟩ rfl jko_110 (Nat.le_of_ble_eq_true rfl) ?_
      obtain ⟨z6, hz_z6, K⟩ := Option.bind_eq_some_iff.mp K
      refine kM_qPuts  (by omega) hz_z6 ?_
      refine jx_next (pc := 117) (pc' := 273) rfl rfl ?_
      obtain rfl := Option.some.inj K
      exact jx_ret (pc := 273) rfl rfl HQ
    · replace K := (if_neg hc32).symm.trans K
      refine jx_sw1 (fun hc31 => ?_) (fun hc31 => ?_)
      · replace K := (if_pos hc31).symm.trans K
        refine jx_next (pc := 120) (pc' := 121) rfl rfl ?_
        refine jx_next (pc := 121) (pc' := 123) rfl rfl ?_
        refine jx_next (pc := 123) (pc' := 124) rfl rfl ?_
        refine jx_next (pc := 124) (pc' := 125) rfl rfl ?_
        refine jx_calls (pc := 125) rfl (Nat.le_of_ble_eq_true rfl) (Nat.le_of_ble_eq_true rfl) ?_
        refine kM_qClip  (by omega) rfl ?_
        refine jx_callv (pc := 128) (o := 110) (rest := []) rfl ⟨by decide, by decide⟩ rfl jko_110 (Nat.le_of_ble_eq_true rfl) ?_
        obtain ⟨z8, hz_z8, K⟩ := Option.bind_eq_some_iff.mp K
        refine kM_qPuts  (by omega) hz_z8 ?_
        refine jx_next (pc := 131) (pc' := 273) rfl rfl ?_
        obtain rfl := Option.some.inj K
        exact jx_ret (pc := 273) rfl rfl HQ
      · replace K := (if_neg hc31).symm.trans K
        refine jx_sw1 (fun hc30 => ?_) (fun hc30 => ?_)
        · replace K := (if_pos hc30).symm.trans K
          refine jx_next (pc := 134) (pc' := 135) rfl rfl ?_
          refine jx_next (pc := 135) (pc' := 137) rfl rfl ?_
          refine jx_next (pc := 137) (pc' := 138) rfl rfl ?_
          refine jx_calls (pc := 138) rfl (Nat.le_of_ble_eq_true rfl) (Nat.le_of_ble_eq_true rfl) ?_
          obtain ⟨z9, hz_z9, K⟩ := Option.bind_eq_some_iff.mp K
          refine kM_qFloor  (by omega) hz_z9 ?_
          refine jx_callv (pc := 141) (o := 110) (rest := []) rfl ⟨by decide, by decide⟩ rfl jko_110 (Nat.le_of_ble_eq_true rfl) ?_
          obtain ⟨z10, hz_z10, K⟩ := Option.bind_eq_some_iff.mp K
          refine kM_qPuts  (by omega) hz_z10 ?_
          refine jx_next (pc := 144) (pc' := 273) rfl rfl ?_
          obtain rfl := Option.some.inj K
          exact jx_ret (pc := 273) rfl rfl HQ
        · replace K := (if_neg hc30).symm.trans K
          refine jx_sw1 (fun hc29 => ?_) (fun hc29 => ?_)
          · replace K := (if_pos hc29).symm.trans K
            refine jx_next (pc := 147) (pc' := 148) rfl rfl ?_
            refine jx_next (pc := 148) (pc' := 150) rfl rfl ?_
            refine jx_next (pc := 150) (pc' := 151) rfl rfl ?_
            refine jx_lcge (pc := 151) rfl rfl (fun hc11 => ?_) (fun hc11 => ?_)
            · replace K := (if_pos hc11).symm.trans K
              refine jx_next (pc := 155) (pc' := 157) rfl rfl ?_
              refine jx_next (pc := 157) (pc' := 161) rfl rfl ?_
              refine jx_le (pl' := [none, none, none, none, none, none]) (jle_n (jle_n (jle_n (jle_n (jle_n (jle_n jle_nil)))))) ?_
              exact kM_qJoins_j161  hd K HQ
            · replace K := (if_neg hc11).symm.trans K
              refine jx_next (pc := 160) (pc' := 161) rfl rfl ?_
              refine jx_le (pl' := [none, none, none, none, none, none]) (jle_n (jle_n (jle_n (jle_n (jle_n (jle_n jle_nil)))))) ?_
              exact kM_qJoins_j161  hd K HQ
          · replace K := (if_neg hc29).symm.trans K
            refine jx_sw1 (fun hc28 => ?_) (fun hc28 => ?_)
            · replace K := (if_pos hc28).symm.trans K
              refine jx_next (pc := 167) (pc' := 168) rfl rfl ?_
              refine jx_next (pc := 168) (pc' := 170) rfl rfl ?_
              refine jx_next (pc := 170) (pc' := 171) rfl rfl ?_
              refine jx_lcle (pc := 171) rfl rfl (fun hc13 => ?_) (fun hc13 => ?_)
              · replace K := (if_pos hc13).symm.trans K
                refine jx_next (pc := 175) (pc' := 177) rfl rfl ?_
                refine jx_next (pc := 177) (pc' := 181) rfl rfl ?_
                refine jx_le (pl' := [none, none, none, none, none, none]) (jle_n (jle_n (jle_n (jle_n (jle_n (jle_n jle_nil)))))) ?_
                exact kM_qJoins_j181  hd K HQ
              · replace K := (if_neg hc13).symm.trans K
                refine jx_next (pc := 180) (pc' := 181) rfl rfl ?_
                refine jx_le (pl' := [none, none, none, none, none, none]) (jle_n (jle_n (jle_n (jle_n (jle_n (jle_n jle_nil)))))) ?_
                exact kM_qJoins_j181  hd K HQ
            · replace K := (if_neg hc28).symm.trans K
              refine jx_sw1 (fun hc27 => ?_) (fun hc27 => ?_)
              · replace K := (if_pos hc27).symm.trans K
                refine jx_next (pc := 187) (pc' := 188) rfl rfl ?_
                refine jx_next (pc := 188) (pc' := 190) rfl rfl ?_
                refine jx_next (pc := 190) (pc' := 191) rfl rfl ?_
                refine jx_lcge (pc := 191) rfl rfl (fun hc15 => ?_) (fun hc15 => ?_)
                · replace K := (if_pos hc15).symm.trans K
                  refine jx_next (pc := 195) (pc' := 196) rfl rfl ?_
                  refine jx_next (pc := 196) (pc' := 200) rfl rfl ?_
                  refine jx_le (pl' := [none, none, none, none, none, none]) (jle_n (jle_n (jle_n (jle_n (jle_n (jle_n jle_nil)))))) ?_
                  exact kM_qJoins_j200  hd K HQ
                · replace K := (if_neg hc15).symm.trans K
                  refine jx_next (pc := 199) (pc' := 200) rfl rfl ?_
                  refine jx_le (pl' := [none, none, none, none, none, none]) (jle_n (jle_n (jle_n (jle_n (jle_n (jle_n jle_nil)))))) ?_
                  exact kM_qJoins_j200  hd K HQ
              · replace K := (if_neg hc27).symm.trans K
                refine jx_sw1 (fun hc26 => ?_) (fun hc26 => ?_)
                · replace K := (if_pos hc26).symm.trans K
                  refine jx_next (pc := 206) (pc' := 207) rfl rfl ?_
                  refine jx_next (pc := 207) (pc' := 209) rfl rfl ?_
                  refine jx_next (pc := 209) (pc' := 210) rfl rfl ?_
                  refine jx_lcle (pc := 210) rfl rfl (fun hc17 => ?_) (fun hc17 => ?_)
                  · replace K := (if_pos hc17).symm.trans K
                    refine jx_next (pc := 214) (pc' := 215) rfl rfl ?_
                    refine jx_next (pc := 215) (pc' := 219) rfl rfl ?_
                    refine jx_le (pl' := [none, none, none, none, none, none]) (jle_n (jle_n (jle_n (jle_n (jle_n (jle_n jle_nil)))))) ?_
                    exact kM_qJoins_j219  hd K HQ
                  · replace K := (if_neg hc17).symm.trans K
                    refine jx_next (pc := 218) (pc' := 219) rfl rfl ?_
                    refine jx_le (pl' := [none, none, none, none, none, none]) (jle_n (jle_n (jle_n (jle_n (jle_n (jle_n jle_nil)))))) ?_
                    exact kM_qJoins_j219  hd K HQ
                · replace K := (if_neg hc26).symm.trans K
                  refine jx_sw1 (fun hc25 => ?_) (fun hc25 => ?_)
                  · replace K := (if_pos hc25).symm.trans K
                    refine jx_next (pc := 225) (pc' := 226) rfl rfl ?_
                    refine jx_next (pc := 226) (pc' := 228) rfl rfl ?_
                    refine jx_next (pc := 228) (pc' := 229) rfl rfl ?_
                    refine jx_lcne (pc := 229) rfl rfl (fun hc19 => ?_) (fun hc19 => ?_)
                    · replace K := (if_pos hc19).symm.trans K
                      refine jx_next (pc := 233) (pc' := 234) rfl rfl ?_
                      refine jx_next (pc := 234) (pc' := 238) rfl rfl ?_
                      refine jx_le (pl' := [none, none, none, none, none, none]) (jle_n (jle_n (jle_n (jle_n (jle_n (jle_n jle_nil)))))) ?_
                      exact kM_qJoins_j238  hd K HQ
                    · replace K := (if_neg hc19).symm.trans K
                      refine jx_next (pc := 237) (pc' := 238) rfl rfl ?_
                      refine jx_le (pl' := [none, none, none, none, none, none]) (jle_n (jle_n (jle_n (jle_n (jle_n (jle_n jle_nil)))))) ?_
                      exact kM_qJoins_j238  hd K HQ
                  · replace K := (if_neg hc25).symm.trans K
                    refine jx_sw1 (fun hc24 => ?_) (fun hc24 => ?_)
                    · replace K := (if_pos hc24).symm.trans K
                      refine jx_next (pc := 244) (pc' := 245) rfl rfl ?_
                      refine jx_next (pc := 245) (pc' := 247) rfl rfl ?_
                      refine jx_next (pc := 247) (pc' := 248) rfl rfl ?_
                      refine jx_next (pc := 248) (pc' := 249) rfl rfl ?_
                      refine jx_callv (pc := 249) (o := 110) (rest := []) rfl ⟨by decide, by decide⟩ rfl jko_110 (Nat.le_of_ble_eq_true rfl) ?_
                      obtain ⟨z21, hz_z21, K⟩ := Option.bind_eq_some_iff.mp K
                      refine kM_qPuts  (by omega) hz_z21 ?_
                      refine jx_next (pc := 252) (pc' := 273) rfl rfl ?_
                      obtain rfl := Option.some.inj K
                      exact jx_ret (pc := 273) rfl rfl HQ
                    · replace K := (if_neg hc24).symm.trans K
                      refine jx_sw0 ?_
                      refine jx_next (pc := 255) (pc' := 256) rfl rfl ?_
                      refine jx_next (pc := 256) (pc' := 258) rfl rfl ?_
                      refine jx_next (pc := 258) (pc' := 259) rfl rfl ?_
                      refine jx_next (pc := 259) (pc' := 260) rfl rfl ?_
                      refine jx_next (pc := 260) (pc' := 261) rfl rfl ?_
                      refine jx_lcle (pc := 261) rfl rfl (fun hc22 => ?_) (fun hc22 => ?_)
                      · replace K := (if_pos hc22).symm.trans K
                        refine jx_next (pc := 265) (pc' := 266) rfl rfl ?_
                        refine jx_next (pc := 266) (pc' := 270) rfl rfl ?_
                        refine jx_le (pl' := [none, none, none, none, none, none]) (jle_n (jle_n (jle_n (jle_n (jle_n (jle_n jle_nil)))))) ?_
                        exact kM_qJoins_j270  hd K HQ
                      · replace K := (if_neg hc22).symm.trans K
                        refine jx_next (pc := 269) (pc' := 270) rfl rfl ?_
                        refine jx_le (pl' := [none, none, none, none, none, none]) (jle_n (jle_n (jle_n (jle_n (jle_n (jle_n jle_nil)))))) ?_
                        exact kM_qJoins_j270  hd K HQ
