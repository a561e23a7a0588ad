noncomputable def fM_undo_l21_b (v1 : Int32) (h : jH) : Option ((Int32 × jH) ⊕ (jH)) :=
  (if v1 < 18 then
  (if jin ((18 * (h.1 110 57)) + v1) 360 then
  (if jin v1 18 then
  some (.inl (v1 + 1, jhI h 148 v1.toNatClampNeg (h.1 152 ((18 * (h.1 110 57)) + v1).toNatClampNeg)))
  else none)
  else none)
  else
  some (.inr h))
noncomputable def fM_undo_l21  : (Int32 × jH) → Option ((Int32 × jH) ⊕ (jH)) :=
  fun (s : Int32 × jH) => fM_undo_l21_b s.1 s.2
theorem kM_undo_l21_b {X : jX} {dd : Nat} {p d : Nat} {q : Nat → Nat} {Q : Option Value → jS → Prop} {v1 : Int32} {h : jH}  (hd : 0 ≤ dd) {z : (Int32 × jH) ⊕ (jH)} (K : fM_undo_l21_b v1 h = some z) (HL : ∀ s : Int32 × jH, z = .inl s → jEx X dd jc_293 21 [some (.ref 110), some (.int s.1)] [] (176, jRf p d q, s.2) Q) (HE0 : ∀ x : jH, z = .inr x → jEx X dd jc_293 53 [some (.ref 110), none] [] (176, jRf p d q, x) Q) :
    jEx X dd jc_293 21 [some (.ref 110), some (.int v1)] [] (176, jRf p d q, h) Q := by
  unfold fM_undo_l21_b at K
  refine jx_next (pc := 21) (pc' := 22) rfl rfl ?_
  refine jx_next (pc := 22) (pc' := 24) rfl rfl ?_
  refine jx_icge (pc := 24) rfl (fun hc4 => ?_) (fun hc4 => ?_)
  · replace K := (if_pos hc4).symm.trans K
    refine jx_next (pc := 27) (pc' := 28) rfl rfl ?_
    refine jx_getr2 (pc := 28) rfl jko_110 jr_12_50 ?_
    refine jx_next (pc := 31) (pc' := 32) rfl rfl ?_
    refine jx_next (pc := 32) (pc' := 33) rfl rfl ?_
    refine jx_getr2 (pc := 33) rfl jko_110 jr_12_55 ?_
    refine jx_next (pc := 36) (pc' := 38) rfl rfl ?_
    refine jx_next (pc := 38) (pc' := 39) rfl rfl ?_
    refine jx_geti (pc := 39) rfl jko_110 ?_
    refine jx_next (pc := 42) (pc' := 43) rfl rfl ?_
    refine jx_next (pc := 43) (pc' := 44) rfl rfl ?_
    refine jx_next (pc := 44) (pc' := 45) rfl rfl ?_
    obtain ⟨hg5, K⟩ := jguard K
    refine jx_iald2 (pc := 45) rfl jko_152 jno_152 hg5 ?_
    obtain ⟨hg6, K⟩ := jguard K
    refine jx_iast2 (pc := 46) rfl jko_148 jno_148 hg6 ?_
    refine jx_inc (pc := 47) (x := v1) (p2 := [some (.ref 110), some (.int (v1 + 1))]) rfl rfl (jlt rfl) rfl ?_
    refine jx_next (pc := 50) (pc' := 21) rfl rfl ?_
    obtain rfl := Option.some.inj K
    refine jx_le (pl' := [some (.ref 110), some (.int (v1 + 1))]) (jle_v (jle_v jle_nil)) ?_
    exact HL (v1 + 1, jhI h 148 v1.toNatClampNeg (h.1 152 ((18 * (h.1 110 57)) + v1).toNatClampNeg)) rfl
  · replace K := (if_neg hc4).symm.trans K
    obtain rfl := Option.some.inj K
    refine jx_le (pl' := [some (.ref 110), none]) (jle_v (jle_n jle_nil)) ?_
    exact HE0 _ rfl
theorem kM_undo_l21_w {X : jX} {dd : Nat} {p d : Nat} {q : Nat → Nat} {Q : Option Value → jS → Prop}   (hd : 0 ≤ dd) {s : Int32 × jH} {x : jH} (K : jlim (fM_undo_l21 ) s = some x) (HE : jEx X dd jc_293 53 [some (.ref 110), none] [] (176, jRf p d q, x) Q) :
    jEx X dd jc_293 21 [some (.ref 110), some (.int s.1)] [] (176, jRf p d q, s.2) Q := by
  refine jlim_ok (G := fun s : Int32 × jH => jEx X dd jc_293 21 [some (.ref 110), some (.int s.1)] [] (176, jRf p d q, s.2) Q) (GX := fun x : jH => jEx X dd jc_293 53 [some (.ref 110), none] [] (176, jRf p d q, x) Q) (fun s z hz HL HE => ?_) K HE
  exact kM_undo_l21_b  hd hz HL HE
/-- AndGuestModel.undo()Z -/
noncomputable def fM_undo  (h : jH) : Option (Int32 × jH) :=
  (if (h.1 110 56) = 0 then
  (if jin 4 6 then
  (if jin 4 6 then
  some (0, jhI h 112 (4 : Int32).toNatClampNeg ((h.1 112 (4 : Int32).toNatClampNeg) + 1))
  else none)
  else none)
  else
  (Option.bind (jlim (fM_undo_l21 ) (0, h)) (fun (x7 : jH) =>
  some (1, jhI (jhI x7 110 57 ((((x7.1 110 57) + 20) - 1) - (((x7.1 110 57) + 20) - 1) / 20 * 20)) 110 56 (((jhI x7 110 57 ((((x7.1 110 57) + 20) - 1) - (((x7.1 110 57) + 20) - 1) / 20 * 20)).1 110 56) - 1)))))
theorem kM_undo {X : jX} {dd : Nat} {p d : Nat} {q : Nat → Nat} {Q : Option Value → jS → Prop}  {h : jH}  (hd : 0 ≤ dd) {z : Int32 × jH} (K : fM_undo  h = some z) (HQ : Q (some (.int z.1)) (176, jRf p d q, z.2)) :
    jCa X dd 293 [.ref 110] (176, jRf p d q, h) Q := by
  unfold fM_undo at K
  refine jCa_of (es := jc_293) (pl := [some (.ref 110), none]) (M := jm_293) rfl rfl rfl rfl ?_
  refine jx_next (pc := 0) (pc' := 1) rfl rfl ?_
  refine jx_geti (pc := 1) rfl jko_110 ?_
  refine jx_ifne (pc := 4) rfl (fun hc1 => ?_) (fun hc1 => ?_)
  · replace K := (if_pos hc1).symm.trans K
    refine jx_next (pc := 7) (pc' := 8) rfl rfl ?_
    refine jx_getr2 (pc := 8) rfl jko_110 jr_12_9 ?_
    refine jx_next (pc := 11) (pc' := 12) rfl rfl ?_
    refine jx_next (pc := 12) (pc' := 13) rfl rfl ?_
    obtain ⟨hg2, K⟩ := jguard K
    refine jx_iald2 (pc := 13) rfl jko_112 jno_112 hg2 ?_
    refine jx_next (pc := 14) (pc' := 15) rfl rfl ?_
    refine jx_next (pc := 15) (pc' := 16) rfl rfl ?_
    obtain ⟨hg3, K⟩ := jguard K
    refine jx_iast2 (pc := 16) rfl jko_112 jno_112 hg3 ?_
    refine jx_next (pc := 17) (pc' := 18) rfl rfl ?_
    obtain rfl := Option.some.inj K
    exact jx_zret (pc := 18) rfl (Or.inl rfl) HQ
  · replace K := (if_neg hc1).symm.trans K
    refine jx_next (pc := 19) (pc' := 20) rfl rfl ?_
    refine jx_stin (pc := 20) (p2 := [some (.ref 110), some (.int 0)]) rfl (jlt rfl) rfl ?_
    refine jx_le (pl' := [some (.ref 110), some (.int 0)]) (jle_v (jle_v jle_nil)) ?_
    obtain ⟨x7, hz_x7, K⟩ := Option.bind_eq_some_iff.mp K
    refine kM_undo_l21_w  hd hz_x7 ?_
    refine jx_next (pc := 53) (pc' := 54) rfl rfl ?_
    refine jx_next (pc := 54) (pc' := 55) rfl rfl ?_
    refine jx_geti (pc := 55) rfl jko_110 ?_
    refine jx_next (pc := 58) (pc' := 60) rfl rfl ?_
    refine jx_next (pc := 60) (pc' := 61) rfl rfl ?_
    refine jx_next (pc := 61) (pc' := 62) rfl rfl ?_
    refine jx_next (pc := 62) (pc' := 63) rfl rfl ?_
    refine jx_next (pc := 63) (pc' := 65) rfl rfl ?_
    refine jx_irem (pc := 65) rfl (by decide) ?_
    refine jx_puti (pc := 66) rfl jko_110 ?_
    refine jx_next (pc := 69) (pc' := 70) rfl rfl ?_
    refine jx_next (pc := 70) (pc' := 71) rfl rfl ?_
    refine jx_geti (pc := 71) rfl jko_110 ?_
    refine jx_next (pc := 74) (pc' := 75) rfl rfl ?_
    refine jx_next (pc := 75) (pc' := 76) rfl rfl ?_
    refine jx_puti (pc := 76) rfl jko_110 ?_
    refine jx_next (pc := 79) (pc' := 80) rfl rfl ?_
    obtain rfl := Option.some.inj K
    exact jx_zret (pc := 80) rfl (Or.inr rfl) HQ
noncomputable def fM_keeps_l15_b (v1 : Int32) (h : jH) : Option ((Int32 × jH) ⊕ (jH)) :=
  (if v1 < 18 then
  (if jin v1 18 then
  (if jin ((18 * (h.1 110 57)) + v1) 360 then
  some (.inl (v1 + 1, jhI h 152 ((18 * (h.1 110 57)) + v1).toNatClampNeg (h.1 148 v1.toNatClampNeg)))
  else none)
  else none)
  else
  some (.inr h))
noncomputable def fM_keeps_l15  : (Int32 × jH) → Option ((Int32 × jH) ⊕ (jH)) :=
  fun (s : Int32 × jH) => fM_keeps_l15_b s.1 s.2
theorem kM_keeps_l15_b {X : jX} {dd : Nat} {p d : Nat} {q : Nat → Nat} {Q : Option Value → jS → Prop} {v1 : Int32} {h : jH}  (hd : 0 ≤ dd) {z : (Int32 × jH) ⊕ (jH)} (K : fM_keeps_l15_b v1 h = some z) (HL : ∀ s : Int32 × jH, z = .inl s → jEx X dd jc_295 15 [some (.ref 110), some (.int s.1)] [] (176, jRf p d q, s.2) Q) (HE0 : ∀ x : jH, z = .inr x → jEx X dd jc_295 47 [some (.ref 110), none] [] (176, jRf p d q, x) Q) :
    jEx X dd jc_295 15 [some (.ref 110), some (.int v1)] [] (176, jRf p d q, h) Q := by
  unfold fM_keeps_l15_b at K
  refine jx_next (pc := 15) (pc' := 16) rfl rfl ?_
  refine jx_next (pc := 16) (pc' := 18) rfl rfl ?_
  refine jx_icge (pc := 18) rfl (fun hc1 => ?_) (fun hc1 => ?_)
  · replace K := (if_pos hc1).symm.trans K
    refine jx_next (pc := 21) (pc' := 22) rfl rfl ?_
    refine jx_getr2 (pc := 22) rfl jko_110 jr_12_55 ?_
    refine jx_next (pc := 25) (pc' := 27) rfl rfl ?_
    refine jx_next (pc := 27) (pc' := 28) rfl rfl ?_
    refine jx_geti (pc := 28) rfl jko_110 ?_
    refine jx_next (pc := 31) (pc' := 32) rfl rfl ?_
    refine jx_next (pc := 32) (pc' := 33) rfl rfl ?_
    refine jx_next (pc := 33) (pc' := 34) rfl rfl ?_
    refine jx_next (pc := 34) (pc' := 35) rfl rfl ?_
    refine jx_getr2 (pc := 35) rfl jko_110 jr_12_50 ?_
    refine jx_next (pc := 38) (pc' := 39) rfl rfl ?_
    obtain ⟨hg2, K⟩ := jguard K
    refine jx_iald2 (pc := 39) rfl jko_148 jno_148 hg2 ?_
    obtain ⟨hg3, K⟩ := jguard K
    refine jx_iast2 (pc := 40) rfl jko_152 jno_152 hg3 ?_
    refine jx_inc (pc := 41) (x := v1) (p2 := [some (.ref 110), some (.int (v1 + 1))]) rfl rfl (jlt rfl) rfl ?_
    refine jx_next (pc := 44) (pc' := 15) rfl rfl ?_
    obtain rfl := Option.some.inj K
    refine jx_le (pl' := [some (.ref 110), some (.int (v1 + 1))]) (jle_v (jle_v jle_nil)) ?_
    exact HL (v1 + 1, jhI h 152 ((18 * (h.1 110 57)) + v1).toNatClampNeg (h.1 148 v1.toNatClampNeg)) rfl
  · replace K := (if_neg hc1).symm.trans K
    obtain rfl := Option.some.inj K
    refine jx_le (pl' := [some (.ref 110), none]) (jle_v (jle_n jle_nil)) ?_
    exact HE0 _ rfl
theorem kM_keeps_l15_w {X : jX} {dd : Nat} {p d : Nat} {q : Nat → Nat} {Q : Option Value → jS → Prop}   (hd : 0 ≤ dd) {s : Int32 × jH} {x : jH} (K : jlim (fM_keeps_l15 ) s = some x) (HE : jEx X dd jc_295 47 [some (.ref 110), none] [] (176, jRf p d q, x) Q) :
    jEx X dd jc_295 15 [some (.ref 110), some (.int s.1)] [] (176, jRf p d q, s.2) Q := by
  refine jlim_ok (G := fun s : Int32 × jH => jEx X dd jc_295 15 [some (.ref 110), some (.int s.1)] [] (176, jRf p d q, s.2) Q) (GX := fun x : jH => jEx X dd jc_295 47 [some (.ref 110), none] [] (176, jRf p d q, x) Q) (fun s z hz HL HE => ?_) K HE
  exact kM_keeps_l15_b  hd hz HL HE
/-- AndGuestModel.keeps()V -/
noncomputable def fM_keeps  (h : jH) : Option jH :=
  (Option.bind (jlim (fM_keeps_l15 ) (0, jhI h 110 57 (((h.1 110 57) + 1) - ((h.1 110 57) + 1) / 20 * 20))) (fun (x4 : jH) =>
  (if (x4.1 110 56) < 20 then
  some (jhI x4 110 56 ((x4.1 110 56) + 1))
  else
  some x4)))
theorem kM_keeps {X : jX} {dd : Nat} {p d : Nat} {q : Nat → Nat} {Q : Option Value → jS → Prop}  {h : jH}  (hd : 0 ≤ dd) {z : jH} (K : fM_keeps  h = some z) (HQ : Q none (176, jRf p d q, z)) :
    jCa X dd 295 [.ref 110] (176, jRf p d q, h) Q := by
  unfold fM_keeps at K
  refine jCa_of (es := jc_295) (pl := [some (.ref 110), none]) (M := jm_295) rfl rfl rfl rfl ?_
  refine jx_next (pc := 0) (pc' := 1) rfl rfl ?_
  refine jx_next (pc := 1) (pc' := 2) rfl rfl ?_
  refine jx_geti (pc := 2) rfl jko_110 ?_
  refine jx_next (pc := 5) (pc' := 6) rfl rfl ?_
  refine jx_next (pc := 6) (pc' := 7) rfl rfl ?_
  refine jx_next (pc := 7) (pc' := 9) rfl rfl ?_
  refine jx_irem (pc := 9) rfl (by decide) ?_
  refine jx_puti (pc := 10) rfl jko_110 ?_
  refine jx_next (pc := 13) (pc' := 14) rfl rfl ?_
  refine jx_stin (pc := 14) (p2 := [some (.ref 110), some (.int 0)]) rfl (jlt rfl) rfl ?_
  refine jx_le (pl' := [some (.ref 110), some (.int 0)]) (jle_v (jle_v jle_nil)) ?_
  obtain ⟨x4, hz_x4, K⟩ := Option.bind_eq_some_iff.mp K
  refine kM_keeps_l15_w  hd hz_x4 ?_
  refine jx_next (pc := 47) (pc' := 48) rfl rfl ?_
  refine jx_geti (pc := 48) rfl jko_110 ?_
  refine jx_next (pc := 51) (pc' := 53) rfl rfl ?_
  refine jx_icge (pc := 53) rfl (fun hc5 => ?_) (fun hc5 => ?_)
  · replace K := (if_pos hc5).symm.trans K
    refine jx_next (pc := 56) (pc' := 57) rfl rfl ?_
    refine jx_next (pc := 57) (pc' := 58) rfl rfl ?_
    refine jx_geti (pc := 58) rfl jko_110 ?_
    refine jx_next (pc := 61) (pc' := 62) rfl rfl ?_
    refine jx_next (pc := 62) (pc' := 63) rfl rfl ?_
    refine jx_puti (pc := 63) rfl jko_110 ?_
    obtain rfl := Option.some.inj K
    exact jx_ret (pc := 66) rfl rfl HQ
  · replace K := (if_neg hc5).symm.trans K
    obtain rfl := Option.some.inj K
    exact jx_ret (pc := 66) rfl rfl HQ
noncomputable def fM_send_j12  (h : jH) : Option (Int32 × jH) :=
  (if jin 2 6 then
  (if jin 2 6 then
  some ((-1), jhI h 112 (2 : Int32).toNatClampNeg ((h.1 112 (2 : Int32).toNatClampNeg) + 1))
  else none)
  else none)
theorem kM_send_j12 {X : jX} {dd : Nat} {p d : Nat} {q : Nat → Nat} {Q : Option Value → jS → Prop}  {h : jH}  (hd : 4 ≤ (dd + 1)) {z : Int32 × jH} (K : fM_send_j12  h = some z) (HQ : Q (some (.int z.1)) (176, jRf p d q, z.2)) :
    jEx X (dd + 1) jc_294 12 [some (.ref 110), none] [] (176, jRf p d q, h) Q := by
  unfold fM_send_j12 at K
  refine jx_next (pc := 12) (pc' := 13) rfl rfl ?_
  refine jx_getr2 (pc := 13) rfl jko_110 jr_12_9 ?_
  refine jx_next (pc := 16) (pc' := 17) rfl rfl ?_
  refine jx_next (pc := 17) (pc' := 18) rfl rfl ?_
  obtain ⟨hg2, K⟩ := jguard K
  refine jx_iald2 (pc := 18) rfl jko_112 jno_112 hg2 ?_
  refine jx_next (pc := 19) (pc' := 20) rfl rfl ?_
  refine jx_next (pc := 20) (pc' := 21) rfl rfl ?_
  obtain ⟨hg3, K⟩ := jguard K
  refine jx_iast2 (pc := 21) rfl jko_112 jno_112 hg3 ?_
  refine jx_next (pc := 22) (pc' := 23) rfl rfl ?_
  obtain rfl := Option.some.inj K
  exact jx_iret (pc := 23) rfl HQ
/-- AndGuestModel.send(I)I -/
noncomputable def fM_send (v1 : Int32) (h : jH) : Option (Int32 × jH) :=
  (if v1 = 0 then
  fM_send_j12  h
  else
  (Option.bind (fM_canSend v1 h) (fun (z4 : Int32) =>
  (if z4 = 0 then
  fM_send_j12  h
  else
  (Option.bind (fM_keeps h) (fun (z6 : jH) =>
  (Option.bind (fM_sends v1 z6) (fun (z7 : jH) =>
  (Option.bind (fM_bits v1 z7) (fun (z8 : Int32) =>
  some (z8, z7)))))))))))
theorem kM_send {X : jX} {dd : Nat} {p d : Nat} {q : Nat → Nat} {Q : Option Value → jS → Prop} {v1 : Int32} {h : jH}  (hd : 4 ≤ dd) {z : Int32 × jH} (K : fM_send v1 h = some z) (HQ : Q (some (.int z.1)) (176, jRf p d q, z.2)) :
    jCa X dd 294 [.ref 110, .int v1] (176, jRf p d q, h) Q := by
  obtain ⟨dd, rfl⟩ : ∃ d9, dd = d9 + 1 := ⟨dd - 1, by omega⟩
  unfold fM_send at K
  refine jCa_of (es := jc_294) (pl := [some (.ref 110), some (.int v1)]) (M := jm_294) rfl rfl rfl rfl ?_
  refine jx_next (pc := 0) (pc' := 1) rfl rfl ?_
  refine jx_ifeq (pc := 1) rfl (fun hc1 => ?_) (fun hc1 => ?_)
  · replace K := (if_pos hc1).symm.trans K
    refine jx_le (pl' := [some (.ref 110), none]) (jle_v (jle_n jle_nil)) ?_
    exact kM_send_j12  hd K HQ
  · replace K := (if_neg hc1).symm.trans K
    refine jx_next (pc := 4) (pc' := 5) rfl rfl ?_
    refine jx_next (pc := 5) (pc' := 6) rfl rfl ?_
    refine jx_callv (pc := 6) (o := 110) (rest := []) rfl ⟨by decide, by decide⟩ rfl jko_110 (Nat.le_of_ble_eq_true rfl) ?_
    obtain ⟨z4, hz_z4, K⟩ := Option.bind_eq_some_iff.mp K
    refine kM_canSend  (by omega) hz_z4 ?_
    refine jx_ifne (pc := 9) rfl (fun hc5 => ?_) (fun hc5 => ?_)
    · replace K := (if_pos hc5).symm.trans K
      refine jx_le (pl' := [some (.ref 110), none]) (jle_v (jle_n jle_nil)) ?_
      exact kM_send_j12  hd K HQ
    · replace K := (if_neg hc5).symm.trans K
      refine jx_next (pc := 24) (pc' := 25) rfl rfl ?_
      refine jx_callv (pc := 25) (o := 110) (rest := []) rfl ⟨by decide, by decide⟩ rfl jko_110 (Nat.le_of_ble_eq_true rfl) ?_
      obtain ⟨z6, hz_z6, K⟩ := Option.bind_eq_some_iff.mp K
      refine kM_keeps  (by omega) hz_z6 ?_
      refine jx_next (pc := 28) (pc' := 29) rfl rfl ?_
      refine jx_next (pc := 29) (pc' := 30) rfl rfl ?_
      refine jx_callv (pc := 30) (o := 110) (rest := []) rfl ⟨by decide, by decide⟩ rfl jko_110 (Nat.le_of_ble_eq_true rfl) ?_
      obtain ⟨z7, hz_z7, K⟩ := Option.bind_eq_some_iff.mp K
      refine kM_sends  (by omega) hz_z7 ?_
      refine jx_next (pc := 33) (pc' := 34) rfl rfl ?_
      refine jx_calls (pc := 34) rfl (Nat.le_of_ble_eq_true rfl) (Nat.le_of_ble_eq_true rfl) ?_
      obtain ⟨z8, hz_z8, K⟩ := Option.bind_eq_some_iff.mp K
      refine kM_bits  (by omega) hz_z8 ?_
      obtain rfl := Option.some.inj K
      exact jx_iret (pc := 37) rfl HQ
noncomputable def fM_answer_j39  (h : jH) : Option (Int32 × jH) :=
  (if jin 2 6 then
  (if jin 2 6 then
  some (0, jhI h 112 (2 : Int32).toNatClampNeg ((h.1 112 (2 : Int32).toNatClampNeg) + 1))
  else none)
  else none)
theorem kM_answer_j39 {X : jX} {dd : Nat} {p d : Nat} {q : Nat → Nat} {Q : Option Value → jS → Prop}  {h : jH}  (hd : 2 ≤ (dd + 1)) {z : Int32 × jH} (K : fM_answer_j39  h = some z) (HQ : Q (some (.int z.1)) (176, jRf p d q, z.2)) :
    jEx X (dd + 1) jc_296 39 [some (.ref 110), none, none] [] (176, jRf p d q, h) Q := by
  unfold fM_answer_j39 at K
  refine jx_next (pc := 39) (pc' := 40) rfl rfl ?_
  refine jx_getr2 (pc := 40) rfl jko_110 jr_12_9 ?_
  refine jx_next (pc := 43) (pc' := 44) rfl rfl ?_
  refine jx_next (pc := 44) (pc' := 45) rfl rfl ?_
  obtain ⟨hg3, K⟩ := jguard K
  refine jx_iald2 (pc := 45) rfl jko_112 jno_112 hg3 ?_
  refine jx_next (pc := 46) (pc' := 47) rfl rfl ?_
  refine jx_next (pc := 47) (pc' := 48) rfl rfl ?_
  obtain ⟨hg4, K⟩ := jguard K
  refine jx_iast2 (pc := 48) rfl jko_112 jno_112 hg4 ?_
  refine jx_next (pc := 49) (pc' := 50) rfl rfl ?_
  obtain rfl := Option.some.inj K
  exact jx_zret (pc := 50) rfl (Or.inl rfl) HQ
/-- AndGuestModel.answer(II)Z -/
noncomputable def fM_answer (v1 : Int32) (v2 : Int32) (h : jH) : Option (Int32 × jH) :=
  (Option.bind (fM_isGuest v1 h) (fun (z1 : Int32) =>
  (if z1 = 0 then
  fM_answer_j39  h
  else
  (Option.bind (fM_isAsked v1 h) (fun (z5 : Int32) =>
  (if z5 = 0 then
  fM_answer_j39  h
  else
  (if (fM_isIn v2.toInt64 2 4) = 0 then
  fM_answer_j39  h
  else
  (Option.bind (fM_howOf v1 h) (fun (z9 : Int32) =>
  (if z9 = v2 then
  fM_answer_j39  h
  else
  (Option.bind (fM_keeps h) (fun (z11 : jH) =>
  (if jin (2 + (2 * v1)) 18 then
  some (1, jhI z11 148 (2 + (2 * v1)).toNatClampNeg v2)
  else none)))))))))))))
theorem kM_answer {X : jX} {dd : Nat} {p d : Nat} {q : Nat → Nat} {Q : Option Value → jS → Prop} {v1 : Int32} {v2 : Int32} {h : jH}  (hd : 2 ≤ dd) {z : Int32 × jH} (K : fM_answer v1 v2 h = some z) (HQ : Q (some (.int z.1)) (176, jRf p d q, z.2)) :
    jCa X dd 296 [.ref 110, .int v1, .int v2] (176, jRf p d q, h) Q := by
  obtain ⟨dd, rfl⟩ : ∃ d9, dd = d9 + 1 := ⟨dd - 1, by omega⟩
  unfold fM_answer at K
  refine jCa_of (es := jc_296) (pl := [some (.ref 110), some (.int v1), some (.int v2)]) (M := jm_296) rfl rfl rfl rfl ?_
  refine jx_next (pc := 0) (pc' := 1) rfl rfl ?_
  refine jx_next (pc := 1) (pc' := 2) rfl rfl ?_
  refine jx_callv (pc := 2) (o := 110) (rest := []) rfl ⟨by decide, by decide⟩ rfl jko_110 (Nat.le_of_ble_eq_true rfl) ?_
  obtain ⟨z1, hz_z1, K⟩ := Option.bind_eq_some_iff.mp K
  refine kM_isGuest  (by omega) hz_z1 ?_
  refine jx_ifeq (pc := 5) rfl (fun hc2 => ?_) (fun hc2 => ?_)
  · replace K := (if_pos hc2).symm.trans K
    refine jx_le (pl' := [some (.ref 110), none, none]) (jle_v (jle_n (jle_n jle_nil))) ?_
    exact kM_answer_j39  hd K HQ
  · replace K := (if_neg hc2).symm.trans K
    refine jx_next (pc := 8) (pc' := 9) rfl rfl ?_
    refine jx_next (pc := 9) (pc' := 10) rfl rfl ?_
    refine jx_callv (pc := 10) (o := 110) (rest := []) rfl ⟨by decide, by decide⟩ rfl jko_110 (Nat.le_of_ble_eq_true rfl) ?_
    obtain ⟨z5, hz_z5, K⟩ := Option.bind_eq_some_iff.mp K
    refine kM_isAsked  (by omega) hz_z5 ?_
    refine jx_ifeq (pc := 13) rfl (fun hc6 => ?_) (fun hc6 => ?_)
    · replace K := (if_pos hc6).symm.trans K
      refine jx_le (pl' := [some (.ref 110), none, none]) (jle_v (jle_n (jle_n jle_nil))) ?_
      exact kM_answer_j39  hd K HQ
    · replace K := (if_neg hc6).symm.trans K
      refine jx_next (pc := 16) (pc' := 17) rfl rfl ?_
      refine jx_next (pc := 17) (pc' := 18) rfl rfl ?_
      refine jx_next (pc := 18) (pc' := 21) rfl rfl ?_
      refine jx_next (pc := 21) (pc' := 24) rfl rfl ?_
      refine jx_calls (pc := 24) rfl (Nat.le_of_ble_eq_true rfl) (Nat.le_of_ble_eq_true rfl) ?_
      refine kM_isIn  (by omega) rfl ?_
      refine jx_ifeq (pc := 27) rfl (fun hc8 => ?_) (fun hc8 => ?_)
      · replace K := (if_pos hc8).symm.trans K
        refine jx_le (pl' := [some (.ref 110), none, none]) (jle_v (jle_n (jle_n jle_nil))) ?_
        exact kM_answer_j39  hd K HQ
      · replace K := (if_neg hc8).symm.trans K
        refine jx_next (pc := 30) (pc' := 31) rfl rfl ?_
        refine jx_next (pc := 31) (pc' := 32) rfl rfl ?_
        refine jx_callv (pc := 32) (o := 110) (rest := []) rfl ⟨by decide, by decide⟩ rfl jko_110 (Nat.le_of_ble_eq_true rfl) ?_
        obtain ⟨z9, hz_z9, K⟩ := Option.bind_eq_some_iff.mp K
        refine kM_howOf  (by omega) hz_z9 ?_
        refine jx_next (pc := 35) (pc' := 36) rfl rfl ?_
        refine jx_icne (pc := 36) rfl (fun hc10 => ?_) (fun hc10 => ?_)
        · replace K := (if_pos hc10).symm.trans K
          refine jx_le (pl' := [some (.ref 110), none, none]) (jle_v (jle_n (jle_n jle_nil))) ?_
          exact kM_answer_j39  hd K HQ
        · replace K := (if_neg hc10).symm.trans K
          refine jx_next (pc := 51) (pc' := 52) rfl rfl ?_
          refine jx_callv (pc := 52) (o := 110) (rest := []) rfl ⟨by decide, by decide⟩ rfl jko_110 (Nat.le_of_ble_eq_true rfl) ?_
          obtain ⟨z11, hz_z11, K⟩ := Option.bind_eq_some_iff.mp K
          refine kM_keeps  (by omega) hz_z11 ?_
          refine jx_next (pc := 55) (pc' := 56) rfl rfl ?_
          refine jx_getr2 (pc := 56) rfl jko_110 jr_12_50 ?_
          refine jx_next (pc := 59) (pc' := 60) rfl rfl ?_
          refine jx_next (pc := 60) (pc' := 61) rfl rfl ?_
          refine jx_next (pc := 61) (pc' := 62) rfl rfl ?_
          refine jx_next (pc := 62) (pc' := 63) rfl rfl ?_
          refine jx_next (pc := 63) (pc' := 64) rfl rfl ?_
          refine jx_next (pc := 64) (pc' := 65) rfl rfl ?_
          obtain ⟨hg12, K⟩ := jguard K
          refine jx_iast2 (pc := 65) rfl jko_148 jno_148 hg12 ?_
          refine jx_next (pc := 66) (pc' := 67) rfl rfl ?_
          obtain rfl := Option.some.inj K
          exact jx_zret (pc := 67) rfl (Or.inr rfl) HQ
/-- AndGuestModel.canGo(I)Z -/
noncomputable def fM_canGo (v1 : Int32) (h : jH) : Option Int32 :=
  (if (h.1 110 48) = 0 then
  some (0 : Int32)
  else
  (if (fM_isIn v1.toInt64 1 99) = 0 then
  some (0 : Int32)
  else
  (if jin 0 18 then
  (if 999 < ((h.1 148 (0 : Int32).toNatClampNeg) + v1) then
  some (0 : Int32)
  else
  some (1 : Int32))
  else none)))
theorem kM_canGo {X : jX} {dd : Nat} {p d : Nat} {q : Nat → Nat} {Q : Option Value → jS → Prop} {v1 : Int32} {h : jH}  (hd : 1 ≤ dd) {z : Int32} (K : fM_canGo v1 h = some z) (HQ : Q (some (.int z)) (176, jRf p d q, h)) :
    jCa X dd 298 [.ref 110, .int v1] (176, jRf p d q, h) Q := by
  obtain ⟨dd, rfl⟩ : ∃ d9, dd = d9 + 1 := ⟨dd - 1, by omega⟩
  unfold fM_canGo at K
  refine jCa_of (es := jc_298) (pl := [some (.ref 110), some (.int v1)]) (M := jm_298) rfl rfl rfl rfl ?_
  refine jx_next (pc := 0) (pc' := 1) rfl rfl ?_
  refine jx_getz (pc := 1) rfl jko_110 ?_
  refine jx_ifeq (pc := 4) rfl (fun hc1 => ?_) (fun hc1 => ?_)
  · replace K := (if_pos hc1).symm.trans K
    refine jx_next (pc := 37) (pc' := 38) rfl rfl ?_
    obtain rfl := Option.some.inj K
    exact jx_zret (pc := 38) rfl (Or.inl rfl) HQ
  · replace K := (if_neg hc1).symm.trans K
    refine jx_next (pc := 7) (pc' := 8) rfl rfl ?_
    refine jx_next (pc := 8) (pc' := 9) rfl rfl ?_
    refine jx_next (pc := 9) (pc' := 10) rfl rfl ?_
    refine jx_next (pc := 10) (pc' := 13) rfl rfl ?_
    refine jx_calls (pc := 13) rfl (Nat.le_of_ble_eq_true rfl) (Nat.le_of_ble_eq_true rfl) ?_
    refine kM_isIn  (by omega) rfl ?_
    refine jx_ifeq (pc := 16) rfl (fun hc3 => ?_) (fun hc3 => ?_)
    · replace K := (if_pos hc3).symm.trans K
      refine jx_next (pc := 37) (pc' := 38) rfl rfl ?_
      obtain rfl := Option.some.inj K
      exact jx_zret (pc := 38) rfl (Or.inl rfl) HQ
    · replace K := (if_neg hc3).symm.trans K
      refine jx_next (pc := 19) (pc' := 20) rfl rfl ?_
      refine jx_getr2 (pc := 20) rfl jko_110 jr_12_50 ?_
      refine jx_next (pc := 23) (pc' := 24) rfl rfl ?_
      obtain ⟨hg4, K⟩ := jguard K
      refine jx_iald2 (pc := 24) rfl jko_148 jno_148 hg4 ?_
      refine jx_next (pc := 25) (pc' := 26) rfl rfl ?_
      refine jx_next (pc := 26) (pc' := 27) rfl rfl ?_
      refine jx_next (pc := 27) (pc' := 30) rfl rfl ?_
      refine jx_icgt (pc := 30) rfl (fun hc5 => ?_) (fun hc5 => ?_)
      · replace K := (if_pos hc5).symm.trans K
        refine jx_next (pc := 37) (pc' := 38) rfl rfl ?_
        obtain rfl := Option.some.inj K
        exact jx_zret (pc := 38) rfl (Or.inl rfl) HQ
      · replace K := (if_neg hc5).symm.trans K
        refine jx_next (pc := 33) (pc' := 34) rfl rfl ?_
        refine jx_next (pc := 34) (pc' := 38) rfl rfl ?_
        obtain rfl := Option.some.inj K
        exact jx_zret (pc := 38) rfl (Or.inr rfl) HQ
/-- AndGuestModel.weeks(I)Z -/
noncomputable def fM_weeks (v1 : Int32) (h : jH) : Option (Int32 × jH) :=
  (Option.bind (fM_canGo v1 h) (fun (z1 : Int32) =>
  (if z1 = 0 then
  (if jin 3 6 then
  (if jin 3 6 then
  some (0, jhI h 112 (3 : Int32).toNatClampNeg ((h.1 112 (3 : Int32).toNatClampNeg) + 1))
  else none)
  else none)
  else
  (Option.bind (fM_keeps h) (fun (z5 : jH) =>
  (if jin 0 18 then
  (if jin 0 18 then
  some (1, jhI z5 148 (0 : Int32).toNatClampNeg ((z5.1 148 (0 : Int32).toNatClampNeg) + v1))
  else none)
  else none))))))
theorem kM_weeks {X : jX} {dd : Nat} {p d : Nat} {q : Nat → Nat} {Q : Option Value → jS → Prop} {v1 : Int32} {h : jH}  (hd : 2 ≤ dd) {z : Int32 × jH} (K : fM_weeks v1 h = some z) (HQ : Q (some (.int z.1)) (176, jRf p d q, z.2)) :
    jCa X dd 297 [.ref 110, .int v1] (176, jRf p d q, h) Q := by
  obtain ⟨dd, rfl⟩ : ∃ d9, dd = d9 + 1 := ⟨dd - 1, by omega⟩
  unfold fM_weeks at K
  refine jCa_of (es := jc_297) (pl := [some (.ref 110), some (.int v1)]) (M := jm_297) rfl rfl rfl rfl ?_
  refine jx_next (pc := 0) (pc' := 1) rfl rfl ?_
  refine jx_next (pc := 1) (pc' := 2) rfl rfl ?_
  refine jx_callv (pc := 2) (o := 110) (rest := []) rfl ⟨by decide, by decide⟩ rfl jko_110 (Nat.le_of_ble_eq_true rfl) ?_
  obtain ⟨z1, hz_z1, K⟩ := Option.bind_eq_some_iff.mp K
  refine kM_canGo  (by omega) hz_z1 ?_
  refine jx_ifne (pc := 5) rfl (fun hc2 => ?_) (fun hc2 => ?_)
  · replace K := (if_pos hc2).symm.trans K
    refine jx_next (pc := 8) (pc' := 9) rfl rfl ?_
    refine jx_getr2 (pc := 9) rfl jko_110 jr_12_9 ?_
    refine jx_next (pc := 12) (pc' := 13) rfl rfl ?_
    refine jx_next (pc := 13) (pc' := 14) rfl rfl ?_
    obtain ⟨hg3, K⟩ := jguard K
    refine jx_iald2 (pc := 14) rfl jko_112 jno_112 hg3 ?_
    refine jx_next (pc := 15) (pc' := 16) rfl rfl ?_
    refine jx_next (pc := 16) (pc' := 17) rfl rfl ?_
    obtain ⟨hg4, K⟩ := jguard K
    refine jx_iast2 (pc := 17) rfl jko_112 jno_112 hg4 ?_
    refine jx_next (pc := 18) (pc' := 19) rfl rfl ?_
    obtain rfl := Option.some.inj K
    exact jx_zret (pc := 19) rfl (Or.inl rfl) HQ
  · replace K := (if_neg hc2).symm.trans K
    refine jx_next (pc := 20) (pc' := 21) rfl rfl ?_
    refine jx_callv (pc := 21) (o := 110) (rest := []) rfl ⟨by decide, by decide⟩ rfl jko_110 (Nat.le_of_ble_eq_true rfl) ?_
    obtain ⟨z5, hz_z5, K⟩ := Option.bind_eq_some_iff.mp K
    refine kM_keeps  (by omega) hz_z5 ?_
    refine jx_next (pc := 24) (pc' := 25) rfl rfl ?_
    refine jx_getr2 (pc := 25) rfl jko_110 jr_12_50 ?_
    refine jx_next (pc := 28) (pc' := 29) rfl rfl ?_
    refine jx_next (pc := 29) (pc' := 30) rfl rfl ?_
    obtain ⟨hg6, K⟩ := jguard K
    refine jx_iald2 (pc := 30) rfl jko_148 jno_148 hg6 ?_
    refine jx_next (pc := 31) (pc' := 32) rfl rfl ?_
    refine jx_next (pc := 32) (pc' := 33) rfl rfl ?_
    obtain ⟨hg7, K⟩ := jguard K
    refine jx_iast2 (pc := 33) rfl jko_148 jno_148 hg7 ?_
    refine jx_next (pc := 34) (pc' := 35) rfl rfl ?_
    obtain rfl := Option.some.inj K
    exact jx_zret (pc := 35) rfl (Or.inr rfl) HQ
/-- AndGuestModel.seed(I)Z -/
noncomputable def fM_seed (v1 : Int32) (h : jH) : Option (Int32 × jH) :=
  (if v1 < 0 then
  (if jin 5 6 then
  (if jin 5 6 then
  some (0, jhI h 112 (5 : Int32).toNatClampNeg ((h.1 112 (5 : Int32).toNatClampNeg) + 1))
  else none)
  else none)
  else
  some (1, jhL h 110 58 v1.toInt64))
theorem kM_seed {X : jX} {dd : Nat} {p d : Nat} {q : Nat → Nat} {Q : Option Value → jS → Prop} {v1 : Int32} {h : jH}  (hd : 0 ≤ dd) {z : Int32 × jH} (K : fM_seed v1 h = some z) (HQ : Q (some (.int z.1)) (176, jRf p d q, z.2)) :
    jCa X dd 299 [.ref 110, .int v1] (176, jRf p d q, h) Q := by
  unfold fM_seed at K
  refine jCa_of (es := jc_299) (pl := [some (.ref 110), some (.int v1)]) (M := jm_299) rfl rfl rfl rfl ?_
  refine jx_next (pc := 0) (pc' := 1) rfl rfl ?_
  refine jx_ifge (pc := 1) rfl (fun hc1 => ?_) (fun hc1 => ?_)
  · replace K := (if_pos hc1).symm.trans K
    refine jx_next (pc := 4) (pc' := 5) rfl rfl ?_
    refine jx_getr2 (pc := 5) rfl jko_110 jr_12_9 ?_
    refine jx_next (pc := 8) (pc' := 9) rfl rfl ?_
    refine jx_next (pc := 9) (pc' := 10) rfl rfl ?_
    obtain ⟨hg2, K⟩ := jguard K
    refine jx_iald2 (pc := 10) rfl jko_112 jno_112 hg2 ?_
    refine jx_next (pc := 11) (pc' := 12) rfl rfl ?_
    refine jx_next (pc := 12) (pc' := 13) rfl rfl ?_
    obtain ⟨hg3, K⟩ := jguard K
    refine jx_iast2 (pc := 13) rfl jko_112 jno_112 hg3 ?_
    refine jx_next (pc := 14) (pc' := 15) rfl rfl ?_
    obtain rfl := Option.some.inj K
    exact jx_zret (pc := 15) rfl (Or.inl rfl) HQ
  · replace K := (if_neg hc1).symm.trans K
    refine jx_next (pc := 16) (pc' := 17) rfl rfl ?_
    refine jx_next (pc := 17) (pc' := 18) rfl rfl ?_
    refine jx_next (pc := 18) (pc' := 19) rfl rfl ?_
    refine jx_putl (pc := 19) rfl jko_110 ?_
    refine jx_next (pc := 22) (pc' := 23) rfl rfl ?_
    obtain rfl := Option.some.inj K
    exact jx_zret (pc := 23) rfl (Or.inr rfl) HQ
/-- AndGuestModel.drawOf(I)I -/
noncomputable def fM_drawOf (v1 : Int32) (h : jH) : Option (Int32 × jH) :=
  (if ¬ v1.toInt64 = 0 then
  some (((((jhL h 110 58 (((1103515245 * (h.2 110 58)) + 12345) - ((1103515245 * (h.2 110 58)) + 12345) / 2147483648 * 2147483648)).2 110 58) / 64) - (((jhL h 110 58 (((1103515245 * (h.2 110 58)) + 12345) - ((1103515245 * (h.2 110 58)) + 12345) / 2147483648 * 2147483648)).2 110 58) / 64) / v1.toInt64 * v1.toInt64).toInt32, jhL h 110 58 (((1103515245 * (h.2 110 58)) + 12345) - ((1103515245 * (h.2 110 58)) + 12345) / 2147483648 * 2147483648))
  else none)
theorem kM_drawOf {X : jX} {dd : Nat} {p d : Nat} {q : Nat → Nat} {Q : Option Value → jS → Prop} {v1 : Int32} {h : jH}  (hd : 0 ≤ dd) {z : Int32 × jH} (K : fM_drawOf v1 h = some z) (HQ : Q (some (.int z.1)) (176, jRf p d q, z.2)) :
    jCa X dd 301 [.ref 110, .int v1] (176, jRf p d q, h) Q := by
  unfold fM_drawOf at K
  refine jCa_of (es := jc_301) (pl := [some (.ref 110), some (.int v1)]) (M := jm_301) rfl rfl rfl rfl ?_
  refine jx_next (pc := 0) (pc' := 1) rfl rfl ?_
  refine jx_next (pc := 1) (pc' := 4) rfl rfl ?_
  refine jx_next (pc := 4) (pc' := 5) rfl rfl ?_
  refine jx_getl (pc := 5) rfl jko_110 ?_
  refine jx_next (pc := 8) (pc' := 9) rfl rfl ?_
  refine jx_next (pc := 9) (pc' := 12) rfl rfl ?_
  refine jx_next (pc := 12) (pc' := 13) rfl rfl ?_
  refine jx_next (pc := 13) (pc' := 16) rfl rfl ?_
  refine jx_lrem (pc := 16) rfl (by decide) ?_
  refine jx_putl (pc := 17) rfl jko_110 ?_
  refine jx_next (pc := 20) (pc' := 21) rfl rfl ?_
  refine jx_getl (pc := 21) rfl jko_110 ?_
  refine jx_next (pc := 24) (pc' := 27) rfl rfl ?_
  refine jx_ldiv (pc := 27) rfl (by decide) ?_
  refine jx_next (pc := 28) (pc' := 29) rfl rfl ?_
  refine jx_next (pc := 29) (pc' := 30) rfl rfl ?_
  obtain ⟨hg, K⟩ := jguard K
  refine jx_lrem (pc := 30) rfl hg ?_
  refine jx_next (pc := 31) (pc' := 32) rfl rfl ?_
  obtain rfl := Option.some.inj K
  exact jx_iret (pc := 32) rfl HQ
noncomputable def fM_chance_l36_j107 (v1 : Int32) (v2 : Int32) (v3 : Int32) (v4 : Int32) (h : jH) : Option ((Int32 × Int32 × jH) ⊕ (Int32 × jH)) :=
  some (.inl (v2, v4 + 1, h))
theorem kM_chance_l36_j107 {X : jX} {dd : Nat} {p d : Nat} {q : Nat → Nat} {Q : Option Value → jS → Prop} {v1 : Int32} {v2 : Int32} {v3 : Int32} {v4 : Int32} {h : jH}  (hd : 2 ≤ (dd + 1)) {z : (Int32 × Int32 × jH) ⊕ (Int32 × jH)} (K : fM_chance_l36_j107 v1 v2 v3 v4 h = some z) (HL : ∀ s : Int32 × Int32 × jH, z = .inl s → jEx X (dd + 1) jc_300 36 [some (.ref 110), some (.int v1), some (.int s.1), some (.int v3), some (.int s.2.1)] [] (176, jRf p d q, s.2.2) Q) (HE0 : ∀ x : Int32 × jH, z = .inr x → jEx X (dd + 1) jc_300 113 [some (.ref 110), some (.int v1), some (.int x.1), some (.int v3), none] [] (176, jRf p d q, x.2) Q) :
    jEx X (dd + 1) jc_300 107 [some (.ref 110), some (.int v1), some (.int v2), some (.int v3), some (.int v4)] [] (176, jRf p d q, h) Q := by
  unfold fM_chance_l36_j107 at K
  refine jx_inc (pc := 107) (x := v4) (p2 := [some (.ref 110), some (.int v1), some (.int v2), some (.int v3), some (.int (v4 + 1))]) rfl rfl (jlt rfl) rfl ?_
  refine jx_next (pc := 110) (pc' := 36) rfl rfl ?_
  obtain rfl := Option.some.inj K
  refine jx_le (pl' := [some (.ref 110), some (.int v1), some (.int v2), some (.int v3), some (.int (v4 + 1))]) (jle_v (jle_v (jle_v (jle_v (jle_v jle_nil))))) ?_
  exact HL (v2, v4 + 1, h) rfl
noncomputable def fM_chance_l36_j103 (v1 : Int32) (v2 : Int32) (v3 : Int32) (v4 : Int32) (s0 : Nat) (s1 : Int32) (s2 : Int32) (h : jH) : Option ((Int32 × Int32 × jH) ⊕ (Int32 × jH)) :=
  (if jin s1 (jsh s0).2 then
  fM_chance_l36_j107  v1 (v2 + 1) v3 v4 (jhI h s0 s1.toNatClampNeg s2)
  else none)
theorem kM_chance_l36_j103 {X : jX} {dd : Nat} {p d : Nat} {q : Nat → Nat} {Q : Option Value → jS → Prop} {v1 : Int32} {v2 : Int32} {v3 : Int32} {v4 : Int32} {s0 : Nat} {s1 : Int32} {s2 : Int32} {h : jH} (hs0 : jcl 176 s0 = 20) (hd : 2 ≤ (dd + 1)) {z : (Int32 × Int32 × jH) ⊕ (Int32 × jH)} (K : fM_chance_l36_j103 v1 v2 v3 v4 s0 s1 s2 h = some z) (HL : ∀ s : Int32 × Int32 × jH, z = .inl s → jEx X (dd + 1) jc_300 36 [some (.ref 110), some (.int v1), some (.int s.1), some (.int v3), some (.int s.2.1)] [] (176, jRf p d q, s.2.2) Q) (HE0 : ∀ x : Int32 × jH, z = .inr x → jEx X (dd + 1) jc_300 113 [some (.ref 110), some (.int v1), some (.int x.1), some (.int v3), none] [] (176, jRf p d q, x.2) Q) :
    jEx X (dd + 1) jc_300 103 [some (.ref 110), some (.int v1), some (.int v2), some (.int v3), some (.int v4)] [.int s2, .int s1, .ref s0] (176, jRf p d q, h) Q := by
  unfold fM_chance_l36_j103 at K
  obtain ⟨hg17, K⟩ := jguard K
  refine jx_iast2 (pc := 103) rfl hs0 rfl hg17 ?_
  refine jx_inc (pc := 104) (x := v2) (p2 := [some (.ref 110), some (.int v1), some (.int (v2 + 1)), some (.int v3), some (.int v4)]) rfl rfl (jlt rfl) rfl ?_
  refine jx_le (pl' := [some (.ref 110), some (.int v1), some (.int (v2 + 1)), some (.int v3), some (.int v4)]) (jle_v (jle_v (jle_v (jle_v (jle_v jle_nil))))) ?_
  exact kM_chance_l36_j107  hd K HL HE0
noncomputable def fM_chance_l36_b (v1 : Int32) (v3 : Int32) (v2 : Int32) (v4 : Int32) (h : jH) : Option ((Int32 × Int32 × jH) ⊕ (Int32 × jH)) :=
  (Option.bind (fM_guestMany h) (fun (z7 : Int32) =>
  (if v4 < z7 then
  (Option.bind (fM_howOf v4 h) (fun (z9 : Int32) =>
  (if z9 = 1 then
  (Option.bind (fM_drawOf 100 h) (fun (z11 : Int32 × jH) =>
  (if jin 4 6 then
  (if z11.1 < (z11.2.1 144 (4 : Int32).toNatClampNeg) then
  (Option.bind (fM_drawOf 10 z11.2) (fun (z14 : Int32 × jH) =>
  (Option.bind (fM_toldOf v4 z14.2) (fun (z15 : Int32) =>
  (if z14.1 < z15 then
  fM_chance_l36_j103  v1 v2 v3 v4 148 (2 + (2 * v4)) 2 z14.2
  else
  fM_chance_l36_j103  v1 v2 v3 v4 148 (2 + (2 * v4)) 3 z14.2)))))
  else
  fM_chance_l36_j107  v1 v2 v3 v4 z11.2)
  else none)))
  else
  fM_chance_l36_j107  v1 v2 v3 v4 h)))
  else
  some (.inr (v2, h)))))
noncomputable def fM_chance_l36 (v1 : Int32) (v3 : Int32) : (Int32 × Int32 × jH) → Option ((Int32 × Int32 × jH) ⊕ (Int32 × jH)) :=
  fun (s : Int32 × Int32 × jH) => fM_chance_l36_b v1 v3 s.1 s.2.1 s.2.2
theorem kM_chance_l36_b {X : jX} {dd : Nat} {p d : Nat} {q : Nat → Nat} {Q : Option Value → jS → Prop} {v1 : Int32} {v3 : Int32} {v2 : Int32} {v4 : Int32} {h : jH}  (hd : 2 ≤ (dd + 1)) {z : (Int32 × Int32 × jH) ⊕ (Int32 × jH)} (K : fM_chance_l36_b v1 v3 v2 v4 h = some z) (HL : ∀ s : Int32 × Int32 × jH, z = .inl s → jEx X (dd + 1) jc_300 36 [some (.ref 110), some (.int v1), some (.int s.1), some (.int v3), some (.int s.2.1)] [] (176, jRf p d q, s.2.2) Q) (HE0 : ∀ x : Int32 × jH, z = .inr x → jEx X (dd + 1) jc_300 113 [some (.ref 110), some (.int v1), some (.int x.1), some (.int v3), none] [] (176, jRf p d q, x.2) Q) :
    jEx X (dd + 1) jc_300 36 [some (.ref 110), some (.int v1), some (.int v2), some (.int v3), some (.int v4)] [] (176, jRf p d q, h) Q := by
  unfold fM_chance_l36_b at K
  refine jx_next (pc := 36) (pc' := 38) rfl rfl ?_
  refine jx_next (pc := 38) (pc' := 39) rfl rfl ?_
  refine jx_callv (pc := 39) (o := 110) (rest := [.int v4]) rfl ⟨by decide, by decide⟩ rfl jko_110 (Nat.le_of_ble_eq_true rfl) ?_
  obtain ⟨z7, hz_z7, K⟩ := Option.bind_eq_some_iff.mp K
  refine kM_guestMany  (by omega) hz_z7 ?_
  refine jx_icge (pc := 42) rfl (fun hc8 => ?_) (fun hc8 => ?_)
  · replace K := (if_pos hc8).symm.trans K
    refine jx_next (pc := 45) (pc' := 46) rfl rfl ?_
    refine jx_next (pc := 46) (pc' := 48) rfl rfl ?_
    refine jx_callv (pc := 48) (o := 110) (rest := []) rfl ⟨by decide, by decide⟩ rfl jko_110 (Nat.le_of_ble_eq_true rfl) ?_
    obtain ⟨z9, hz_z9, K⟩ := Option.bind_eq_some_iff.mp K
    refine kM_howOf  (by omega) hz_z9 ?_
    refine jx_next (pc := 51) (pc' := 52) rfl rfl ?_
    refine jx_icne (pc := 52) rfl (fun hc10 => ?_) (fun hc10 => ?_)
    · replace K := (if_pos hc10).symm.trans K
      refine jx_next (pc := 55) (pc' := 56) rfl rfl ?_
      refine jx_next (pc := 56) (pc' := 58) rfl rfl ?_
      refine jx_callv (pc := 58) (o := 110) (rest := []) rfl ⟨by decide, by decide⟩ rfl jko_110 (Nat.le_of_ble_eq_true rfl) ?_
      obtain ⟨z11, hz_z11, K⟩ := Option.bind_eq_some_iff.mp K
      refine kM_drawOf  (by omega) hz_z11 ?_
      refine jx_next (pc := 61) (pc' := 62) rfl rfl ?_
      refine jx_getr2 (pc := 62) rfl jko_110 jr_12_42 ?_
      refine jx_next (pc := 65) (pc' := 66) rfl rfl ?_
      obtain ⟨hg12, K⟩ := jguard K
      refine jx_iald2 (pc := 66) rfl jko_144 jno_144 hg12 ?_
      refine jx_iclt (pc := 67) rfl (fun hc13 => ?_) (fun hc13 => ?_)
      · replace K := (if_pos hc13).symm.trans K
        refine jx_next (pc := 73) (pc' := 74) rfl rfl ?_
        refine jx_getr2 (pc := 74) rfl jko_110 jr_12_50 ?_
        refine jx_next (pc := 77) (pc' := 78) rfl rfl ?_
        refine jx_next (pc := 78) (pc' := 79) rfl rfl ?_
        refine jx_next (pc := 79) (pc' := 81) rfl rfl ?_
        refine jx_next (pc := 81) (pc' := 82) rfl rfl ?_
        refine jx_next (pc := 82) (pc' := 83) rfl rfl ?_
        refine jx_next (pc := 83) (pc' := 84) rfl rfl ?_
        refine jx_next (pc := 84) (pc' := 86) rfl rfl ?_
        refine jx_callv (pc := 86) (o := 110) (rest := [.int (2 + (2 * v4)), .ref 148]) rfl ⟨by decide, by decide⟩ rfl jko_110 (Nat.le_of_ble_eq_true rfl) ?_
        obtain ⟨z14, hz_z14, K⟩ := Option.bind_eq_some_iff.mp K
        refine kM_drawOf  (by omega) hz_z14 ?_
        refine jx_next (pc := 89) (pc' := 90) rfl rfl ?_
        refine jx_next (pc := 90) (pc' := 92) rfl rfl ?_
        refine jx_callv (pc := 92) (o := 110) (rest := [.int z14.1, .int (2 + (2 * v4)), .ref 148]) rfl ⟨by decide, by decide⟩ rfl jko_110 (Nat.le_of_ble_eq_true rfl) ?_
        obtain ⟨z15, hz_z15, K⟩ := Option.bind_eq_some_iff.mp K
        refine kM_toldOf  (by omega) hz_z15 ?_
        refine jx_icge (pc := 95) rfl (fun hc16 => ?_) (fun hc16 => ?_)
        · replace K := (if_pos hc16).symm.trans K
          refine jx_next (pc := 98) (pc' := 99) rfl rfl ?_
          refine jx_next (pc := 99) (pc' := 103) rfl rfl ?_
          refine jx_le (pl' := [some (.ref 110), some (.int v1), some (.int v2), some (.int v3), some (.int v4)]) (jle_v (jle_v (jle_v (jle_v (jle_v jle_nil))))) ?_
          exact kM_chance_l36_j103 jko_148 hd K HL HE0
        · replace K := (if_neg hc16).symm.trans K
          refine jx_next (pc := 102) (pc' := 103) rfl rfl ?_
          refine jx_le (pl' := [some (.ref 110), some (.int v1), some (.int v2), some (.int v3), some (.int v4)]) (jle_v (jle_v (jle_v (jle_v (jle_v jle_nil))))) ?_
          exact kM_chance_l36_j103 jko_148 hd K HL HE0
      · replace K := (if_neg hc13).symm.trans K
        refine jx_next (pc := 70) (pc' := 107) rfl rfl ?_
        refine jx_le (pl' := [some (.ref 110), some (.int v1), some (.int v2), some (.int v3), some (.int v4)]) (jle_v (jle_v (jle_v (jle_v (jle_v jle_nil))))) ?_
        exact kM_chance_l36_j107  hd K HL HE0
    · replace K := (if_neg hc10).symm.trans K
      refine jx_le (pl' := [some (.ref 110), some (.int v1), some (.int v2), some (.int v3), some (.int v4)]) (jle_v (jle_v (jle_v (jle_v (jle_v jle_nil))))) ?_
      exact kM_chance_l36_j107  hd K HL HE0
  · replace K := (if_neg hc8).symm.trans K
    obtain rfl := Option.some.inj K
    refine jx_le (pl' := [some (.ref 110), some (.int v1), some (.int v2), some (.int v3), none]) (jle_v (jle_v (jle_v (jle_v (jle_n jle_nil))))) ?_
    exact HE0 _ rfl
theorem kM_chance_l36_w {X : jX} {dd : Nat} {p d : Nat} {q : Nat → Nat} {Q : Option Value → jS → Prop} {v1 : Int32} {v3 : Int32}  (hd : 2 ≤ (dd + 1)) {s : Int32 × Int32 × jH} {x : Int32 × jH} (K : jlim (fM_chance_l36 v1 v3) s = some x) (HE : jEx X (dd + 1) jc_300 113 [some (.ref 110), some (.int v1), some (.int x.1), some (.int v3), none] [] (176, jRf p d q, x.2) Q) :
    jEx X (dd + 1) jc_300 36 [some (.ref 110), some (.int v1), some (.int s.1), some (.int v3), some (.int s.2.1)] [] (176, jRf p d q, s.2.2) Q := by
  refine jlim_ok (G := fun s : Int32 × Int32 × jH => jEx X (dd + 1) jc_300 36 [some (.ref 110), some (.int v1), some (.int s.1), some (.int v3), some (.int s.2.1)] [] (176, jRf p d q, s.2.2) Q) (GX := fun x : Int32 × jH => jEx X (dd + 1) jc_300 113 [some (.ref 110), some (.int v1), some (.int x.1), some (.int v3), none] [] (176, jRf p d q, x.2) Q) (fun s z hz HL HE => ?_) K HE
  exact kM_chance_l36_b  hd hz HL HE
noncomputable def fM_chance_l28_b (v1 : Int32) (v2 : Int32) (v3 : Int32) (h : jH) : Option ((Int32 × Int32 × jH) ⊕ (Int32 × jH)) :=
  (if v3 < v1 then
  (Option.bind (jlim (fM_chance_l36  v1 v3) (v2, 0, h)) (fun (x18 : Int32 × jH) =>
  (if jin 0 18 then
  (if jin 0 18 then
  some (.inl (x18.1, v3 + 1, jhI x18.2 148 (0 : Int32).toNatClampNeg ((x18.2.1 148 (0 : Int32).toNatClampNeg) + 1)))
  else none)
  else none)))
  else
  some (.inr (v2, h)))
noncomputable def fM_chance_l28 (v1 : Int32) : (Int32 × Int32 × jH) → Option ((Int32 × Int32 × jH) ⊕ (Int32 × jH)) :=
  fun (s : Int32 × Int32 × jH) => fM_chance_l28_b v1 s.1 s.2.1 s.2.2
theorem kM_chance_l28_b {X : jX} {dd : Nat} {p d : Nat} {q : Nat → Nat} {Q : Option Value → jS → Prop} {v1 : Int32} {v2 : Int32} {v3 : Int32} {h : jH}  (hd : 2 ≤ (dd + 1)) {z : (Int32 × Int32 × jH) ⊕ (Int32 × jH)} (K : fM_chance_l28_b v1 v2 v3 h = some z) (HL : ∀ s : Int32 × Int32 × jH, z = .inl s → jEx X (dd + 1) jc_300 28 [some (.ref 110), some (.int v1), some (.int s.1), some (.int s.2.1), none] [] (176, jRf p d q, s.2.2) Q) (HE0 : ∀ x : Int32 × jH, z = .inr x → jEx X (dd + 1) jc_300 129 [none, none, some (.int x.1), none, none] [] (176, jRf p d q, x.2) Q) :
    jEx X (dd + 1) jc_300 28 [some (.ref 110), some (.int v1), some (.int v2), some (.int v3), none] [] (176, jRf p d q, h) Q := by
  unfold fM_chance_l28_b at K
  refine jx_next (pc := 28) (pc' := 29) rfl rfl ?_
  refine jx_next (pc := 29) (pc' := 30) rfl rfl ?_
  refine jx_icge (pc := 30) rfl (fun hc6 => ?_) (fun hc6 => ?_)
  · replace K := (if_pos hc6).symm.trans K
    refine jx_next (pc := 33) (pc' := 34) rfl rfl ?_
    refine jx_sti (pc := 34) (p2 := [some (.ref 110), some (.int v1), some (.int v2), some (.int v3), some (.int 0)]) rfl (jlt rfl) rfl ?_
    refine jx_le (pl' := [some (.ref 110), some (.int v1), some (.int v2), some (.int v3), some (.int 0)]) (jle_v (jle_v (jle_v (jle_v (jle_v jle_nil))))) ?_
    obtain ⟨x18, hz_x18, K⟩ := Option.bind_eq_some_iff.mp K
    refine kM_chance_l36_w  hd hz_x18 ?_
    refine jx_next (pc := 113) (pc' := 114) rfl rfl ?_
    refine jx_getr2 (pc := 114) rfl jko_110 jr_12_50 ?_
    refine jx_next (pc := 117) (pc' := 118) rfl rfl ?_
    refine jx_next (pc := 118) (pc' := 119) rfl rfl ?_
    obtain ⟨hg19, K⟩ := jguard K
    refine jx_iald2 (pc := 119) rfl jko_148 jno_148 hg19 ?_
    refine jx_next (pc := 120) (pc' := 121) rfl rfl ?_
    refine jx_next (pc := 121) (pc' := 122) rfl rfl ?_
    obtain ⟨hg20, K⟩ := jguard K
    refine jx_iast2 (pc := 122) rfl jko_148 jno_148 hg20 ?_
    refine jx_inc (pc := 123) (x := v3) (p2 := [some (.ref 110), some (.int v1), some (.int x18.1), some (.int (v3 + 1)), none]) rfl rfl (jlt rfl) rfl ?_
    refine jx_next (pc := 126) (pc' := 28) rfl rfl ?_
    obtain rfl := Option.some.inj K
    refine jx_le (pl' := [some (.ref 110), some (.int v1), some (.int x18.1), some (.int (v3 + 1)), none]) (jle_v (jle_v (jle_v (jle_v (jle_n jle_nil))))) ?_
    exact HL (x18.1, v3 + 1, jhI x18.2 148 (0 : Int32).toNatClampNeg ((x18.2.1 148 (0 : Int32).toNatClampNeg) + 1)) rfl
  · replace K := (if_neg hc6).symm.trans K
    obtain rfl := Option.some.inj K
    refine jx_le (pl' := [none, none, some (.int v2), none, none]) (jle_n (jle_n (jle_v (jle_n (jle_n jle_nil))))) ?_
    exact HE0 _ rfl
theorem kM_chance_l28_w {X : jX} {dd : Nat} {p d : Nat} {q : Nat → Nat} {Q : Option Value → jS → Prop} {v1 : Int32}  (hd : 2 ≤ (dd + 1)) {s : Int32 × Int32 × jH} {x : Int32 × jH} (K : jlim (fM_chance_l28 v1) s = some x) (HE : jEx X (dd + 1) jc_300 129 [none, none, some (.int x.1), none, none] [] (176, jRf p d q, x.2) Q) :
    jEx X (dd + 1) jc_300 28 [some (.ref 110), some (.int v1), some (.int s.1), some (.int s.2.1), none] [] (176, jRf p d q, s.2.2) Q := by
  refine jlim_ok (G := fun s : Int32 × Int32 × jH => jEx X (dd + 1) jc_300 28 [some (.ref 110), some (.int v1), some (.int s.1), some (.int s.2.1), none] [] (176, jRf p d q, s.2.2) Q) (GX := fun x : Int32 × jH => jEx X (dd + 1) jc_300 129 [none, none, some (.int x.1), none, none] [] (176, jRf p d q, x.2) Q) (fun s z hz HL HE => ?_) K HE
  exact kM_chance_l28_b  hd hz HL HE
/-- AndGuestModel.chance(I)I -/
noncomputable def fM_chance (v1 : Int32) (h : jH) : Option (Int32 × jH) :=
  (Option.bind (fM_canGo v1 h) (fun (z1 : Int32) =>
  (if z1 = 0 then
  (if jin 3 6 then
  (if jin 3 6 then
  some ((-1), jhI h 112 (3 : Int32).toNatClampNeg ((h.1 112 (3 : Int32).toNatClampNeg) + 1))
  else none)
  else none)
  else
  (Option.bind (fM_keeps h) (fun (z5 : jH) =>
  (Option.bind (jlim (fM_chance_l28  v1) (0, 0, z5)) (fun (x21 : Int32 × jH) =>
  some (x21.1, x21.2))))))))
theorem kM_chance {X : jX} {dd : Nat} {p d : Nat} {q : Nat → Nat} {Q : Option Value → jS → Prop} {v1 : Int32} {h : jH}  (hd : 2 ≤ dd) {z : Int32 × jH} (K : fM_chance v1 h = some z) (HQ : Q (some (.int z.1)) (176, jRf p d q, z.2)) :
    jCa X dd 300 [.ref 110, .int v1] (176, jRf p d q, h) Q := by
  obtain ⟨dd, rfl⟩ : ∃ d9, dd = d9 + 1 := ⟨dd - 1, by omega⟩
  unfold fM_chance at K
  refine jCa_of (es := jc_300) (pl := [some (.ref 110), some (.int v1), none, none, none]) (M := jm_300) rfl rfl rfl rfl ?_
  refine jx_next (pc := 0) (pc' := 1) rfl rfl ?_
  refine jx_next (pc := 1) (pc' := 2) rfl rfl ?_
  refine jx_callv (pc := 2) (o := 110) (rest := []) rfl ⟨by decide, by decide⟩ rfl jko_110 (Nat.le_of_ble_eq_true rfl) ?_
  obtain ⟨z1, hz_z1, K⟩ := Option.bind_eq_some_iff.mp K
  refine kM_canGo  (by omega) hz_z1 ?_
  refine jx_ifne (pc := 5) rfl (fun hc2 => ?_) (fun hc2 => ?_)
  · replace K := (if_pos hc2).symm.trans K
    refine jx_next (pc := 8) (pc' := 9) rfl rfl ?_
    refine jx_getr2 (pc := 9) rfl jko_110 jr_12_9 ?_
    refine jx_next (pc := 12) (pc' := 13) rfl rfl ?_
    refine jx_next (pc := 13) (pc' := 14) rfl rfl ?_
    obtain ⟨hg3, K⟩ := jguard K
    refine jx_iald2 (pc := 14) rfl jko_112 jno_112 hg3 ?_
    refine jx_next (pc := 15) (pc' := 16) rfl rfl ?_
    refine jx_next (pc := 16) (pc' := 17) rfl rfl ?_
    obtain ⟨hg4, K⟩ := jguard K
    refine jx_iast2 (pc := 17) rfl jko_112 jno_112 hg4 ?_
    refine jx_next (pc := 18) (pc' := 19) rfl rfl ?_
    obtain rfl := Option.some.inj K
    exact jx_iret (pc := 19) rfl HQ
  · replace K := (if_neg hc2).symm.trans K
    refine jx_next (pc := 20) (pc' := 21) rfl rfl ?_
    refine jx_callv (pc := 21) (o := 110) (rest := []) rfl ⟨by decide, by decide⟩ rfl jko_110 (Nat.le_of_ble_eq_true rfl) ?_
    obtain ⟨z5, hz_z5, K⟩ := Option.bind_eq_some_iff.mp K
    refine kM_keeps  (by omega) hz_z5 ?_
    refine jx_next (pc := 24) (pc' := 25) rfl rfl ?_
    refine jx_stin (pc := 25) (p2 := [some (.ref 110), some (.int v1), some (.int 0), none, none]) rfl (jlt rfl) rfl ?_
    refine jx_next (pc := 26) (pc' := 27) rfl rfl ?_
    refine jx_stin (pc := 27) (p2 := [some (.ref 110), some (.int v1), some (.int 0), some (.int 0), none]) rfl (jlt rfl) rfl ?_
    refine jx_le (pl' := [some (.ref 110), some (.int v1), some (.int 0), some (.int 0), none]) (jle_v (jle_v (jle_v (jle_v (jle_n jle_nil))))) ?_
    obtain ⟨x21, hz_x21, K⟩ := Option.bind_eq_some_iff.mp K
    refine kM_chance_l28_w  hd hz_x21 ?_
    refine jx_next (pc := 129) (pc' := 130) rfl rfl ?_
    obtain rfl := Option.some.inj K
    exact jx_iret (pc := 130) rfl HQ
noncomputable def fM_qKind_j76 (s0 : Int32) (h : jH) : Option (Int32 × jH) :=
  (if s0 = 5 then
  (Option.bind (fM_asks 158 h) (fun (z12 : jH) =>
  some (s0, z12)))
  else
  some (s0, h))
theorem kM_qKind_j76 {X : jX} {dd : Nat} {p d : Nat} {q : Nat → Nat} {Q : Option Value → jS → Prop} {s0 : Int32} {h : jH}  (hd : 4 ≤ (dd + 1)) {z : Int32 × jH} (K : fM_qKind_j76 s0 h = some z) (HQ : Q (some (.int z.1)) (176, jRf p d q, z.2)) :
    jEx X (dd + 1) jc_303 76 [some (.ref 110), none] [.int s0] (176, jRf p d q, h) Q := by
  unfold fM_qKind_j76 at K
  refine jx_stin (pc := 76) (p2 := [some (.ref 110), some (.int s0)]) rfl (jlt rfl) rfl ?_
  refine jx_next (pc := 77) (pc' := 78) rfl rfl ?_
  refine jx_next (pc := 78) (pc' := 79) rfl rfl ?_
  refine jx_icne (pc := 79) rfl (fun hc11 => ?_) (fun hc11 => ?_)
  · replace K := (if_pos hc11).symm.trans K
    refine jx_next (pc := 82) (pc' := 83) rfl rfl ?_
    refine jx_next (pc := 83) (pc' := 84) rfl rfl ?_
    refine jx_getr2 (pc := 84) rfl jko_110 jr_12_64 ?_
    refine jx_callv (pc := 87) (o := 110) (rest := []) rfl ⟨by decide, by decide⟩ rfl jko_110 (Nat.le_of_ble_eq_true rfl) ?_
    obtain ⟨z12, hz_z12, K⟩ := Option.bind_eq_some_iff.mp K
    refine kM_asks  jko_158 (by omega) hz_z12 ?_
    refine jx_next (pc := 90) (pc' := 91) rfl rfl ?_
    obtain rfl := Option.some.inj K
    exact jx_iret (pc := 91) rfl HQ
  · replace K := (if_neg hc11).symm.trans K
    refine jx_next (pc := 90) (pc' := 91) rfl rfl ?_
    obtain rfl := Option.some.inj K
    exact jx_iret (pc := 91) rfl HQ
/-- AndGuestModel.qKind()I -/
noncomputable def fM_qKind  (h : jH) : Option (Int32 × jH) :=
  (Option.bind (fM_takes 153 h) (fun (z1 : Int32 × jH) =>
  (if z1.1 = 0 then
  (Option.bind (fM_takes 154 z1.2) (fun (z3 : Int32 × jH) =>
  (if z3.1 = 0 then
  (Option.bind (fM_takes 155 z3.2) (fun (z5 : Int32 × jH) =>
  (if z5.1 = 0 then
  (Option.bind (fM_takes 156 z5.2) (fun (z7 : Int32 × jH) =>
  (if z7.1 = 0 then
  (Option.bind (fM_takes 157 z7.2) (fun (z9 : Int32 × jH) =>
  (if z9.1 = 0 then
  fM_qKind_j76  5 z9.2
  else
  fM_qKind_j76  4 z9.2)))
  else
  fM_qKind_j76  3 z7.2)))
  else
  fM_qKind_j76  2 z5.2)))
  else
  fM_qKind_j76  1 z3.2)))
  else
  fM_qKind_j76  0 z1.2)))
theorem kM_qKind {X : jX} {dd : Nat} {p d : Nat} {q : Nat → Nat} {Q : Option Value → jS → Prop}  {h : jH}  (hd : 4 ≤ dd) {z : Int32 × jH} (K : fM_qKind  h = some z) (HQ : Q (some (.int z.1)) (176, jRf p d q, z.2)) :
    jCa X dd 303 [.ref 110] (176, jRf p d q, h) Q := by
  obtain ⟨dd, rfl⟩ : ∃ d9, dd = d9 + 1 := ⟨dd - 1, by omega⟩
  unfold fM_qKind at K
  refine jCa_of (es := jc_303) (pl := [some (.ref 110), none]) (M := jm_303) rfl rfl rfl rfl ?_
  refine jx_next (pc := 0) (pc' := 1) rfl rfl ?_
  refine jx_next (pc := 1) (pc' := 2) rfl rfl ?_
  refine jx_getr2 (pc := 2) rfl jko_110 jr_12_59 ?_
  refine jx_callv (pc := 5) (o := 110) (rest := []) rfl ⟨by decide, by decide⟩ rfl jko_110 (Nat.le_of_ble_eq_true rfl) ?_
  obtain ⟨z1, hz_z1, K⟩ := Option.bind_eq_some_iff.mp K
  refine kM_takes  jko_153 (by omega) hz_z1 ?_
  refine jx_ifeq (pc := 8) rfl (fun hc2 => ?_) (fun hc2 => ?_)
  · replace K := (if_pos hc2).symm.trans K
    refine jx_next (pc := 15) (pc' := 16) rfl rfl ?_
    refine jx_next (pc := 16) (pc' := 17) rfl rfl ?_
    refine jx_getr2 (pc := 17) rfl jko_110 jr_12_60 ?_
    refine jx_callv (pc := 20) (o := 110) (rest := []) rfl ⟨by decide, by decide⟩ rfl jko_110 (Nat.le_of_ble_eq_true rfl) ?_
    obtain ⟨z3, hz_z3, K⟩ := Option.bind_eq_some_iff.mp K
    refine kM_takes  jko_154 (by omega) hz_z3 ?_
    refine jx_ifeq (pc := 23) rfl (fun hc4 => ?_) (fun hc4 => ?_)
    · replace K := (if_pos hc4).symm.trans K
      refine jx_next (pc := 30) (pc' := 31) rfl rfl ?_
      refine jx_next (pc := 31) (pc' := 32) rfl rfl ?_
      refine jx_getr2 (pc := 32) rfl jko_110 jr_12_61 ?_
      refine jx_callv (pc := 35) (o := 110) (rest := []) rfl ⟨by decide, by decide⟩ rfl jko_110 (Nat.le_of_ble_eq_true rfl) ?_
      obtain ⟨z5, hz_z5, K⟩ := Option.bind_eq_some_iff.mp K
      refine kM_takes  jko_155 (by omega) hz_z5 ?_
      refine jx_ifeq (pc := 38) rfl (fun hc6 => ?_) (fun hc6 => ?_)
      · replace K := (if_pos hc6).symm.trans K
        refine jx_next (pc := 45) (pc' := 46) rfl rfl ?_
        refine jx_next (pc := 46) (pc' := 47) rfl rfl ?_
        refine jx_getr2 (pc := 47) rfl jko_110 jr_12_62 ?_
        refine jx_callv (pc := 50) (o := 110) (rest := []) rfl ⟨by decide, by decide⟩ rfl jko_110 (Nat.le_of_ble_eq_true rfl) ?_
        obtain ⟨z7, hz_z7, K⟩ := Option.bind_eq_some_iff.mp K
        refine kM_takes  jko_156 (by omega) hz_z7 ?_
        refine jx_ifeq (pc := 53) rfl (fun hc8 => ?_) (fun hc8 => ?_)
        · replace K := (if_pos hc8).symm.trans K
          refine jx_next (pc := 60) (pc' := 61) rfl rfl ?_
          refine jx_next (pc := 61) (pc' := 62) rfl rfl ?_
          refine jx_getr2 (pc := 62) rfl jko_110 jr_12_63 ?_
          refine jx_callv (pc := 65) (o := 110) (rest := []) rfl ⟨by decide, by decide⟩ rfl jko_110 (Nat.le_of_ble_eq_true rfl) ?_
          obtain ⟨z9, hz_z9, K⟩ := Option.bind_eq_some_iff.mp K
          refine kM_takes  jko_157 (by omega) hz_z9 ?_
          refine jx_ifeq (pc := 68) rfl (fun hc10 => ?_) (fun hc10 => ?_)
          · replace K := (if_pos hc10).symm.trans K
            refine jx_next (pc := 75) (pc' := 76) rfl rfl ?_
            refine jx_le (pl' := [some (.ref 110), none]) (jle_v (jle_n jle_nil)) ?_
            exact kM_qKind_j76  hd K HQ
          · replace K := (if_neg hc10).symm.trans K
            refine jx_next (pc := 71) (pc' := 72) rfl rfl ?_
            refine jx_next (pc := 72) (pc' := 76) rfl rfl ?_
            refine jx_le (pl' := [some (.ref 110), none]) (jle_v (jle_n jle_nil)) ?_
            exact kM_qKind_j76  hd K HQ
        · replace K := (if_neg hc8).symm.trans K
          refine jx_next (pc := 56) (pc' := 57) rfl rfl ?_
          refine jx_next (pc := 57) (pc' := 76) rfl rfl ?_
          refine jx_le (pl' := [some (.ref 110), none]) (jle_v (jle_n jle_nil)) ?_
          exact kM_qKind_j76  hd K HQ
      · replace K := (if_neg hc6).symm.trans K
        refine jx_next (pc := 41) (pc' := 42) rfl rfl ?_
        refine jx_next (pc := 42) (pc' := 76) rfl rfl ?_
        refine jx_le (pl' := [some (.ref 110), none]) (jle_v (jle_n jle_nil)) ?_
        exact kM_qKind_j76  hd K HQ
    · replace K := (if_neg hc4).symm.trans K
      refine jx_next (pc := 26) (pc' := 27) rfl rfl ?_
      refine jx_next (pc := 27) (pc' := 76) rfl rfl ?_
      refine jx_le (pl' := [some (.ref 110), none]) (jle_v (jle_n jle_nil)) ?_
      exact kM_qKind_j76  hd K HQ
  · replace K := (if_neg hc2).symm.trans K
    refine jx_next (pc := 11) (pc' := 12) rfl rfl ?_
    refine jx_next (pc := 12) (pc' := 76) rfl rfl ?_
    refine jx_le (pl' := [some (.ref 110), none]) (jle_v (jle_n jle_nil)) ?_
    exact kM_qKind_j76  hd K HQ
noncomputable def fM_qFact_j102 (s1 : Int32) (h : jH) : Option jH :=
  (Option.bind (fM_qCode s1 h) (fun (z9 : jH) =>
  some z9))
theorem kM_qFact_j102 {X : jX} {dd : Nat} {p d : Nat} {q : Nat → Nat} {Q : Option Value → jS → Prop} {s1 : Int32} {h : jH}  (hd : 7 ≤ (dd + 1)) {z : jH} (K : fM_qFact_j102 s1 h = some z) (HQ : Q none (176, jRf p d q, z)) :
    jEx X (dd + 1) jc_305 102 [none, none] [.int s1, .ref 110] (176, jRf p d q, h) Q := by
  unfold fM_qFact_j102 at K
  refine jx_callv (pc := 102) (o := 110) (rest := []) rfl ⟨by decide, by decide⟩ rfl jko_110 (Nat.le_of_ble_eq_true rfl) ?_
  obtain ⟨z9, hz_z9, K⟩ := Option.bind_eq_some_iff.mp K
  refine kM_qCode  (by omega) hz_z9 ?_
  obtain rfl := Option.some.inj K
  exact jx_ret (pc := 105) rfl rfl HQ
noncomputable def fM_qFact_j63 (v1 : Int32) (h : jH) : Option jH :=
  (Option.bind (fM_qSums (jhI h 110 2 ((h.1 110 2) + 1))) (fun (z7 : jH) =>
  (if v1 = 60 then
  fM_qFact_j102  7 z7
  else
  (if v1 = 62 then
  fM_qFact_j102  8 z7
  else
  fM_qFact_j102  9 z7))))
theorem kM_qFact_j63 {X : jX} {dd : Nat} {p d : Nat} {q : Nat → Nat} {Q : Option Value → jS → Prop} {v1 : Int32} {h : jH}  (hd : 7 ≤ (dd + 1)) {z : jH} (K : fM_qFact_j63 v1 h = some z) (HQ : Q none (176, jRf p d q, z)) :
    jEx X (dd + 1) jc_305 63 [some (.ref 110), some (.int v1)] [] (176, jRf p d q, h) Q := by
  unfold fM_qFact_j63 at K
  refine jx_next (pc := 63) (pc' := 64) rfl rfl ?_
  refine jx_next (pc := 64) (pc' := 65) rfl rfl ?_
  refine jx_geti (pc := 65) rfl jko_110 ?_
  refine jx_next (pc := 68) (pc' := 69) rfl rfl ?_
  refine jx_next (pc := 69) (pc' := 70) rfl rfl ?_
  refine jx_puti (pc := 70) rfl jko_110 ?_
  refine jx_next (pc := 73) (pc' := 74) rfl rfl ?_
  refine jx_callv (pc := 74) (o := 110) (rest := []) rfl ⟨by decide, by decide⟩ rfl jko_110 (Nat.le_of_ble_eq_true rfl) ?_
  obtain ⟨z7, hz_z7, K⟩ := Option.bind_eq_some_iff.mp K
  refine kM_qSums  (by omega) hz_z7 ?_
  refine jx_next (pc := 77) (pc' := 78) rfl rfl ?_
  refine jx_next (pc := 78) (pc' := 79) rfl rfl ?_
  refine jx_next (pc := 79) (pc' := 81) rfl rfl ?_
  refine jx_icne (pc := 81) rfl (fun hc8 => ?_) (fun hc8 => ?_)
  · replace K := (if_pos hc8).symm.trans K
    refine jx_next (pc := 84) (pc' := 86) rfl rfl ?_
    refine jx_next (pc := 86) (pc' := 102) rfl rfl ?_
    refine jx_le (pl' := [none, none]) (jle_n (jle_n jle_nil)) ?_
    exact kM_qFact_j102  hd K HQ
  · replace K := (if_neg hc8).symm.trans K
    refine jx_next (pc := 89) (pc' := 90) rfl rfl ?_
    refine jx_next (pc := 90) (pc' := 92) rfl rfl ?_
    refine jx_icne (pc := 92) rfl (fun hc10 => ?_) (fun hc10 => ?_)
    · replace K := (if_pos hc10).symm.trans K
      refine jx_next (pc := 95) (pc' := 97) rfl rfl ?_
      refine jx_next (pc := 97) (pc' := 102) rfl rfl ?_
      refine jx_le (pl' := [none, none]) (jle_n (jle_n jle_nil)) ?_
      exact kM_qFact_j102  hd K HQ
    · replace K := (if_neg hc10).symm.trans K
      refine jx_next (pc := 100) (pc' := 102) rfl rfl ?_
      refine jx_le (pl' := [none, none]) (jle_n (jle_n jle_nil)) ?_
      exact kM_qFact_j102  hd K HQ
/-- AndGuestModel.qFact()V -/
noncomputable def fM_qFact  (h : jH) : Option jH :=
  (Option.bind (fM_takes 162 h) (fun (z1 : Int32 × jH) =>
  (if z1.1 = 0 then
  (Option.bind (fM_qSums z1.2) (fun (z3 : jH) =>
  (if (z3.1 110 5) = 0 then
  (Option.bind (fM_look z3) (fun (z5 : Int32 × jH) =>
  (if z5.1 = 60 then
  fM_qFact_j63  z5.1 z5.2
  else
  (if z5.1 = 62 then
  fM_qFact_j63  z5.1 z5.2
  else
  (if z5.1 = 61 then
  fM_qFact_j63  z5.1 z5.2
  else
  some (fM_fail 1 (z5.2.1 110 2) z5.2))))))
  else
  some z3)))
  else
  (Option.bind (fM_qCode 13 z1.2) (fun (z14 : jH) =>
  some z14)))))
theorem kM_qFact {X : jX} {dd : Nat} {p d : Nat} {q : Nat → Nat} {Q : Option Value → jS → Prop}  {h : jH}  (hd : 7 ≤ dd) {z : jH} (K : fM_qFact  h = some z) (HQ : Q none (176, jRf p d q, z)) :
    jCa X dd 305 [.ref 110] (176, jRf p d q, h) Q := by
  obtain ⟨dd, rfl⟩ : ∃ d9, dd = d9 + 1 := ⟨dd - 1, by omega⟩
  unfold fM_qFact at K
  refine jCa_of (es := jc_305) (pl := [some (.ref 110), none]) (M := jm_305) rfl rfl rfl rfl ?_
  refine jx_next (pc := 0) (pc' := 1) rfl rfl ?_
  refine jx_next (pc := 1) (pc' := 2) rfl rfl ?_
  refine jx_getr2 (pc := 2) rfl jko_110 jr_12_68 ?_
  refine jx_callv (pc := 5) (o := 110) (rest := []) rfl ⟨by decide, by decide⟩ rfl jko_110 (Nat.le_of_ble_eq_true rfl) ?_
  obtain ⟨z1, hz_z1, K⟩ := Option.bind_eq_some_iff.mp K
  refine kM_takes  jko_162 (by omega) hz_z1 ?_
  refine jx_ifeq (pc := 8) rfl (fun hc2 => ?_) (fun hc2 => ?_)
  · replace K := (if_pos hc2).symm.trans K
    refine jx_next (pc := 18) (pc' := 19) rfl rfl ?_
    refine jx_callv (pc := 19) (o := 110) (rest := []) rfl ⟨by decide, by decide⟩ rfl jko_110 (Nat.le_of_ble_eq_true rfl) ?_
    obtain ⟨z3, hz_z3, K⟩ := Option.bind_eq_some_iff.mp K
    refine kM_qSums  (by omega) hz_z3 ?_
    refine jx_next (pc := 22) (pc' := 23) rfl rfl ?_
    refine jx_geti (pc := 23) rfl jko_110 ?_
    refine jx_ifeq (pc := 26) rfl (fun hc4 => ?_) (fun hc4 => ?_)
    · replace K := (if_pos hc4).symm.trans K
      refine jx_next (pc := 30) (pc' := 31) rfl rfl ?_
      refine jx_callv (pc := 31) (o := 110) (rest := []) rfl ⟨by decide, by decide⟩ rfl jko_110 (Nat.le_of_ble_eq_true rfl) ?_
      obtain ⟨z5, hz_z5, K⟩ := Option.bind_eq_some_iff.mp K
      refine kM_look  (by omega) hz_z5 ?_
      refine jx_stin (pc := 34) (p2 := [some (.ref 110), some (.int z5.1)]) rfl (jlt rfl) rfl ?_
      refine jx_next (pc := 35) (pc' := 36) rfl rfl ?_
      refine jx_next (pc := 36) (pc' := 38) rfl rfl ?_
      refine jx_iceq (pc := 38) rfl (fun hc6 => ?_) (fun hc6 => ?_)
      · replace K := (if_pos hc6).symm.trans K
        refine jx_le (pl' := [some (.ref 110), some (.int z5.1)]) (jle_v (jle_v jle_nil)) ?_
        exact kM_qFact_j63  hd K HQ
      · replace K := (if_neg hc6).symm.trans K
        refine jx_next (pc := 41) (pc' := 42) rfl rfl ?_
        refine jx_next (pc := 42) (pc' := 44) rfl rfl ?_
        refine jx_iceq (pc := 44) rfl (fun hc11 => ?_) (fun hc11 => ?_)
        · replace K := (if_pos hc11).symm.trans K
          refine jx_le (pl' := [some (.ref 110), some (.int z5.1)]) (jle_v (jle_v jle_nil)) ?_
          exact kM_qFact_j63  hd K HQ
        · replace K := (if_neg hc11).symm.trans K
          refine jx_next (pc := 47) (pc' := 48) rfl rfl ?_
          refine jx_next (pc := 48) (pc' := 50) rfl rfl ?_
          refine jx_iceq (pc := 50) rfl (fun hc12 => ?_) (fun hc12 => ?_)
          · replace K := (if_pos hc12).symm.trans K
            refine jx_le (pl' := [some (.ref 110), some (.int z5.1)]) (jle_v (jle_v jle_nil)) ?_
            exact kM_qFact_j63  hd K HQ
          · replace K := (if_neg hc12).symm.trans K
            refine jx_next (pc := 53) (pc' := 54) rfl rfl ?_
            refine jx_next (pc := 54) (pc' := 55) rfl rfl ?_
            refine jx_next (pc := 55) (pc' := 56) rfl rfl ?_
            refine jx_geti (pc := 56) rfl jko_110 ?_
            refine jx_callv (pc := 59) (o := 110) (rest := []) rfl ⟨by decide, by decide⟩ rfl jko_110 (Nat.le_of_ble_eq_true rfl) ?_
            refine kM_fail  (by omega) rfl ?_
            obtain rfl := Option.some.inj K
            exact jx_ret (pc := 62) rfl rfl HQ
    · replace K := (if_neg hc4).symm.trans K
      obtain rfl := Option.some.inj K
      exact jx_ret (pc := 29) rfl rfl HQ
  · replace K := (if_neg hc2).symm.trans K
    refine jx_next (pc := 11) (pc' := 12) rfl rfl ?_
    refine jx_next (pc := 12) (pc' := 14) rfl rfl ?_
    refine jx_callv (pc := 14) (o := 110) (rest := []) rfl ⟨by decide, by decide⟩ rfl jko_110 (Nat.le_of_ble_eq_true rfl) ?_
    obtain ⟨z14, hz_z14, K⟩ := Option.bind_eq_some_iff.mp K
    refine kM_qCode  (by omega) hz_z14 ?_
    obtain rfl := Option.some.inj K
    exact jx_ret (pc := 17) rfl rfl HQ
noncomputable def fM_qDropsNots_l0_b  (h : jH) : Option ((jH) ⊕ (jH)) :=
  (if (h.1 110 5) = 0 then
  (Option.bind (fM_qIsOn 12 h) (fun (z2 : Int32) =>
  (if z2 = 0 then
  some (.inr h)
  else
  (Option.bind (fM_qDrops (jhI h 110 83 ((h.1 110 83) - 1))) (fun (z4 : jH) =>
  some (.inl z4))))))
  else
  some (.inr h))
noncomputable def fM_qDropsNots_l0  : jH → Option ((jH) ⊕ (jH)) :=
  fun (s : jH) => fM_qDropsNots_l0_b  s
theorem kM_qDropsNots_l0_b {X : jX} {dd : Nat} {p d : Nat} {q : Nat → Nat} {Q : Option Value → jS → Prop}  {h : jH}  (hd : 2 ≤ (dd + 1)) {z : (jH) ⊕ (jH)} (K : fM_qDropsNots_l0_b  h = some z) (HL : ∀ s : jH, z = .inl s → jEx X (dd + 1) jc_306 0 [some (.ref 110)] [] (176, jRf p d q, s) Q) (HE0 : ∀ x : jH, z = .inr x → jEx X (dd + 1) jc_306 33 [none] [] (176, jRf p d q, x) Q) :
    jEx X (dd + 1) jc_306 0 [some (.ref 110)] [] (176, jRf p d q, h) Q := by
  unfold fM_qDropsNots_l0_b at K
  refine jx_next (pc := 0) (pc' := 1) rfl rfl ?_
  refine jx_geti (pc := 1) rfl jko_110 ?_
  refine jx_ifne (pc := 4) rfl (fun hc1 => ?_) (fun hc1 => ?_)
  · replace K := (if_pos hc1).symm.trans K
    refine jx_next (pc := 7) (pc' := 8) rfl rfl ?_
    refine jx_next (pc := 8) (pc' := 10) rfl rfl ?_
    refine jx_callv (pc := 10) (o := 110) (rest := []) rfl ⟨by decide, by decide⟩ rfl jko_110 (Nat.le_of_ble_eq_true rfl) ?_
    obtain ⟨z2, hz_z2, K⟩ := Option.bind_eq_some_iff.mp K
    refine kM_qIsOn  (by omega) hz_z2 ?_
    refine jx_ifeq (pc := 13) rfl (fun hc3 => ?_) (fun hc3 => ?_)
    · replace K := (if_pos hc3).symm.trans K
      obtain rfl := Option.some.inj K
      refine jx_le (pl' := [none]) (jle_n jle_nil) ?_
      exact HE0 _ rfl
    · replace K := (if_neg hc3).symm.trans K
      refine jx_next (pc := 16) (pc' := 17) rfl rfl ?_
      refine jx_next (pc := 17) (pc' := 18) rfl rfl ?_
      refine jx_geti (pc := 18) rfl jko_110 ?_
      refine jx_next (pc := 21) (pc' := 22) rfl rfl ?_
      refine jx_next (pc := 22) (pc' := 23) rfl rfl ?_
      refine jx_puti (pc := 23) rfl jko_110 ?_
      refine jx_next (pc := 26) (pc' := 27) rfl rfl ?_
      refine jx_callv (pc := 27) (o := 110) (rest := []) rfl ⟨by decide, by decide⟩ rfl jko_110 (Nat.le_of_ble_eq_true rfl) ?_
      obtain ⟨z4, hz_z4, K⟩ := Option.bind_eq_some_iff.mp K
      refine kM_qDrops  (by omega) hz_z4 ?_
      refine jx_next (pc := 30) (pc' := 0) rfl rfl ?_
      obtain rfl := Option.some.inj K
      refine jx_le (pl' := [some (.ref 110)]) (jle_v jle_nil) ?_
      exact HL z4 rfl
  · replace K := (if_neg hc1).symm.trans K
    obtain rfl := Option.some.inj K
    refine jx_le (pl' := [none]) (jle_n jle_nil) ?_
    exact HE0 _ rfl
theorem kM_qDropsNots_l0_w {X : jX} {dd : Nat} {p d : Nat} {q : Nat → Nat} {Q : Option Value → jS → Prop}   (hd : 2 ≤ (dd + 1)) {s : jH} {x : jH} (K : jlim (fM_qDropsNots_l0 ) s = some x) (HE : jEx X (dd + 1) jc_306 33 [none] [] (176, jRf p d q, x) Q) :
    jEx X (dd + 1) jc_306 0 [some (.ref 110)] [] (176, jRf p d q, s) Q := by
  refine jlim_ok (G := fun s : jH => jEx X (dd + 1) jc_306 0 [some (.ref 110)] [] (176, jRf p d q, s) Q) (GX := fun x : jH => jEx X (dd + 1) jc_306 33 [none] [] (176, jRf p d q, x) Q) (fun s z hz HL HE => ?_) K HE
  exact kM_qDropsNots_l0_b  hd hz HL HE
/-- AndGuestModel.qDropsNots()V -/
noncomputable def fM_qDropsNots  (h : jH) : Option jH :=
  (Option.bind (jlim (fM_qDropsNots_l0 ) h) (fun (x5 : jH) =>
  some x5))
theorem kM_qDropsNots {X : jX} {dd : Nat} {p d : Nat} {q : Nat → Nat} {Q : Option Value → jS → Prop}  {h : jH}  (hd : 2 ≤ dd) {z : jH} (K : fM_qDropsNots  h = some z) (HQ : Q none (176, jRf p d q, z)) :
    jCa X dd 306 [.ref 110] (176, jRf p d q, h) Q := by
  obtain ⟨dd, rfl⟩ : ∃ d9, dd = d9 + 1 := ⟨dd - 1, by omega⟩
  unfold fM_qDropsNots at K
  refine jCa_of (es := jc_306) (pl := [some (.ref 110)]) (M := jm_306) rfl rfl rfl rfl ?_
  refine jx_le (pl' := [some (.ref 110)]) (jle_v jle_nil) ?_
  obtain ⟨x5, hz_x5, K⟩ := Option.bind_eq_some_iff.mp K
  refine kM_qDropsNots_l0_w  hd hz_x5 ?_
  obtain rfl := Option.some.inj K
  exact jx_ret (pc := 33) rfl rfl HQ
noncomputable def fM_qHasSquare_l2_b (v1 : Int32) (h : jH) : Option ((Int32) ⊕ ((Unit) ⊕ (Unit))) :=
  (if v1 < (h.1 110 82) then
  (if jin v1 1700 then
  (if (h.1 174 v1.toNatClampNeg) = 25 then
  some (.inr (.inl ()))
  else
  some (.inl (v1 + 1)))
  else none)
  else
  some (.inr (.inr ())))
noncomputable def fM_qHasSquare_l2  (h : jH) : Int32 → Option ((Int32) ⊕ ((Unit) ⊕ (Unit))) :=
  fun (s : Int32) => fM_qHasSquare_l2_b s h
theorem kM_qHasSquare_l2_b {X : jX} {dd : Nat} {p d : Nat} {q : Nat → Nat} {Q : Option Value → jS → Prop} {v1 : Int32} {h : jH}  (hd : 0 ≤ dd) {z : (Int32) ⊕ ((Unit) ⊕ (Unit))} (K : fM_qHasSquare_l2_b v1 h = some z) (HL : ∀ s : Int32, z = .inl s → jEx X dd jc_308 2 [some (.ref 110), some (.int s)] [] (176, jRf p d q, h) Q) (HE0 : ∀ x : Unit, z = .inr (.inl x) → jEx X dd jc_308 21 [none, none] [] (176, jRf p d q, h) Q) (HE1 : ∀ x : Unit, z = .inr (.inr x) → jEx X dd jc_308 29 [none, none] [] (176, jRf p d q, h) Q) :
    jEx X dd jc_308 2 [some (.ref 110), some (.int v1)] [] (176, jRf p d q, h) Q := by
  unfold fM_qHasSquare_l2_b at K
  refine jx_next (pc := 2) (pc' := 3) rfl rfl ?_
  refine jx_next (pc := 3) (pc' := 4) rfl rfl ?_
  refine jx_geti (pc := 4) rfl jko_110 ?_
  refine jx_icge (pc := 7) rfl (fun hc1 => ?_) (fun hc1 => ?_)
  · replace K := (if_pos hc1).symm.trans K
    refine jx_next (pc := 10) (pc' := 11) rfl rfl ?_
    refine jx_getr2 (pc := 11) rfl jko_110 jr_12_81 ?_
    refine jx_next (pc := 14) (pc' := 15) rfl rfl ?_
    obtain ⟨hg2, K⟩ := jguard K
    refine jx_iald2 (pc := 15) rfl jko_174 jno_174 hg2 ?_
    refine jx_next (pc := 16) (pc' := 18) rfl rfl ?_
    refine jx_icne (pc := 18) rfl (fun hc3 => ?_) (fun hc3 => ?_)
    · replace K := (if_pos hc3).symm.trans K
      obtain rfl := Option.some.inj K
      refine jx_le (pl' := [none, none]) (jle_n (jle_n jle_nil)) ?_
      exact HE0 _ rfl
    · replace K := (if_neg hc3).symm.trans K
      refine jx_inc (pc := 23) (x := v1) (p2 := [some (.ref 110), some (.int (v1 + 1))]) rfl rfl (jlt rfl) rfl ?_
      refine jx_next (pc := 26) (pc' := 2) rfl rfl ?_
      obtain rfl := Option.some.inj K
      refine jx_le (pl' := [some (.ref 110), some (.int (v1 + 1))]) (jle_v (jle_v jle_nil)) ?_
      exact HL (v1 + 1) rfl
  · replace K := (if_neg hc1).symm.trans K
    obtain rfl := Option.some.inj K
    refine jx_le (pl' := [none, none]) (jle_n (jle_n jle_nil)) ?_
    exact HE1 _ rfl
theorem kM_qHasSquare_l2_w {X : jX} {dd : Nat} {p d : Nat} {q : Nat → Nat} {Q : Option Value → jS → Prop}  {h : jH}  (hd : 0 ≤ dd) {s : Int32} {x : (Unit) ⊕ (Unit)} (K : jlim (fM_qHasSquare_l2  h) s = some x) (HE0 : ∀ x0 : Unit, x = .inl x0 → jEx X dd jc_308 21 [none, none] [] (176, jRf p d q, h) Q) (HE1 : ∀ x0 : Unit, x = .inr x0 → jEx X dd jc_308 29 [none, none] [] (176, jRf p d q, h) Q) :
    jEx X dd jc_308 2 [some (.ref 110), some (.int s)] [] (176, jRf p d q, h) Q := by
  refine jlim_ok (G := fun s : Int32 => jEx X dd jc_308 2 [some (.ref 110), some (.int s)] [] (176, jRf p d q, h) Q) (GX := fun x : (Unit) ⊕ (Unit) => (∀ x0 : Unit, x = .inl x0 → jEx X dd jc_308 21 [none, none] [] (176, jRf p d q, h) Q) ∧ (∀ x0 : Unit, x = .inr x0 → jEx X dd jc_308 29 [none, none] [] (176, jRf p d q, h) Q)) (fun s z hz HL HE => ?_) K ⟨HE0, HE1⟩
  exact kM_qHasSquare_l2_b  hd hz HL (fun x hx => (HE _ hx).1 x rfl) (fun x hx => (HE _ hx).2 x rfl)
/-- AndGuestModel.qHasSquare()Z -/
noncomputable def fM_qHasSquare  (h : jH) : Option Int32 :=
  (Option.bind (jlim (fM_qHasSquare_l2  h) 0) (fun (x4 : (Unit) ⊕ (Unit)) => Sum.elim (fun (y4 : Unit) =>
  some (1 : Int32)) (fun (y4 : Unit) =>
  some (0 : Int32)) x4))
theorem kM_qHasSquare {X : jX} {dd : Nat} {p d : Nat} {q : Nat → Nat} {Q : Option Value → jS → Prop}  {h : jH}  (hd : 0 ≤ dd) {z : Int32} (K : fM_qHasSquare  h = some z) (HQ : Q (some (.int z)) (176, jRf p d q, h)) :
    jCa X dd 308 [.ref 110] (176, jRf p d q, h) Q := by
  unfold fM_qHasSquare at K
  refine jCa_of (es := jc_308) (pl := [some (.ref 110), none]) (M := jm_308) rfl rfl rfl rfl ?_
  refine jx_next (pc := 0) (pc' := 1) rfl rfl ?_
  refine jx_stin (pc := 1) (p2 := [some (.ref 110), some (.int 0)]) rfl (jlt rfl) rfl ?_
  refine jx_le (pl' := [some (.ref 110), some (.int 0)]) (jle_v (jle_v jle_nil)) ?_
  obtain ⟨x4, hz_x4, K⟩ := Option.bind_eq_some_iff.mp K
  refine kM_qHasSquare_l2_w  hd hz_x4 (fun y4 hx9 => ?_) (fun y4 hx9 => ?_)
  · subst hx9
    refine jx_next (pc := 21) (pc' := 22) rfl rfl ?_
    obtain rfl := Option.some.inj K
    exact jx_zret (pc := 22) rfl (Or.inr rfl) HQ
  · subst hx9
    refine jx_next (pc := 29) (pc' := 30) rfl rfl ?_
    obtain rfl := Option.some.inj K
    exact jx_zret (pc := 30) rfl (Or.inl rfl) HQ
noncomputable def fM_qGoesOnTest_l33_b  (h : jH) : Option ((jH) ⊕ (jH)) :=
  (Option.bind (fM_qIsOn 25 h) (fun (z6 : Int32) =>
  (if z6 = 0 then
  (Option.bind (fM_qDrops h) (fun (z8 : jH) =>
  some (.inl z8)))
  else
  some (.inr h))))
noncomputable def fM_qGoesOnTest_l33  : jH → Option ((jH) ⊕ (jH)) :=
  fun (s : jH) => fM_qGoesOnTest_l33_b  s
theorem kM_qGoesOnTest_l33_b {X : jX} {dd : Nat} {p d : Nat} {q : Nat → Nat} {Q : Option Value → jS → Prop}  {h : jH}  (hd : 3 ≤ (dd + 1)) {z : (jH) ⊕ (jH)} (K : fM_qGoesOnTest_l33_b  h = some z) (HL : ∀ s : jH, z = .inl s → jEx X (dd + 1) jc_307 33 [some (.ref 110)] [] (176, jRf p d q, s) Q) (HE0 : ∀ x : jH, z = .inr x → jEx X (dd + 1) jc_307 49 [some (.ref 110)] [] (176, jRf p d q, x) Q) :
    jEx X (dd + 1) jc_307 33 [some (.ref 110)] [] (176, jRf p d q, h) Q := by
  unfold fM_qGoesOnTest_l33_b at K
  refine jx_next (pc := 33) (pc' := 34) rfl rfl ?_
  refine jx_next (pc := 34) (pc' := 36) rfl rfl ?_
  refine jx_callv (pc := 36) (o := 110) (rest := []) rfl ⟨by decide, by decide⟩ rfl jko_110 (Nat.le_of_ble_eq_true rfl) ?_
  obtain ⟨z6, hz_z6, K⟩ := Option.bind_eq_some_iff.mp K
  refine kM_qIsOn  (by omega) hz_z6 ?_
  refine jx_ifne (pc := 39) rfl (fun hc7 => ?_) (fun hc7 => ?_)
  · replace K := (if_pos hc7).symm.trans K
    refine jx_next (pc := 42) (pc' := 43) rfl rfl ?_
    refine jx_callv (pc := 43) (o := 110) (rest := []) rfl ⟨by decide, by decide⟩ rfl jko_110 (Nat.le_of_ble_eq_true rfl) ?_
    obtain ⟨z8, hz_z8, K⟩ := Option.bind_eq_some_iff.mp K
    refine kM_qDrops  (by omega) hz_z8 ?_
    refine jx_next (pc := 46) (pc' := 33) rfl rfl ?_
    obtain rfl := Option.some.inj K
    refine jx_le (pl' := [some (.ref 110)]) (jle_v jle_nil) ?_
    exact HL z8 rfl
  · replace K := (if_neg hc7).symm.trans K
    obtain rfl := Option.some.inj K
    refine jx_le (pl' := [some (.ref 110)]) (jle_v jle_nil) ?_
    exact HE0 _ rfl
theorem kM_qGoesOnTest_l33_w {X : jX} {dd : Nat} {p d : Nat} {q : Nat → Nat} {Q : Option Value → jS → Prop}   (hd : 3 ≤ (dd + 1)) {s : jH} {x : jH} (K : jlim (fM_qGoesOnTest_l33 ) s = some x) (HE : jEx X (dd + 1) jc_307 49 [some (.ref 110)] [] (176, jRf p d q, x) Q) :
    jEx X (dd + 1) jc_307 33 [some (.ref 110)] [] (176, jRf p d q, s) Q := by
  refine jlim_ok (G := fun s : jH => jEx X (dd + 1) jc_307 33 [some (.ref 110)] [] (176, jRf p d q, s) Q) (GX := fun x : jH => jEx X (dd + 1) jc_307 49 [some (.ref 110)] [] (176, jRf p d q, x) Q) (fun s z hz HL HE => ?_) K HE
  exact kM_qGoesOnTest_l33_b  hd hz HL HE
noncomputable def fM_qGoesOnTest_l0_b  (h : jH) : Option ((jH) ⊕ (jH)) :=
  (if (h.1 110 5) = 0 then
  (Option.bind (fM_look h) (fun (z2 : Int32 × jH) =>
  (if z2.1 = 93 then
  (Option.bind (fM_qHasSquare z2.2) (fun (z4 : Int32) =>
  (if z4 = 0 then
  some (.inr z2.2)
  else
  (Option.bind (jlim (fM_qGoesOnTest_l33 ) (jhI z2.2 110 2 ((z2.2.1 110 2) + 1))) (fun (x9 : jH) =>
  (Option.bind (fM_qDropsNots (jhI (jhI x9 110 82 ((x9.1 110 82) - 1)) 110 83 (((jhI x9 110 82 ((x9.1 110 82) - 1)).1 110 83) - 1))) (fun (z10 : jH) =>
  some (.inl z10))))))))
  else
  some (.inr z2.2))))
  else
  some (.inr h))
noncomputable def fM_qGoesOnTest_l0  : jH → Option ((jH) ⊕ (jH)) :=
  fun (s : jH) => fM_qGoesOnTest_l0_b  s
theorem kM_qGoesOnTest_l0_b {X : jX} {dd : Nat} {p d : Nat} {q : Nat → Nat} {Q : Option Value → jS → Prop}  {h : jH}  (hd : 3 ≤ (dd + 1)) {z : (jH) ⊕ (jH)} (K : fM_qGoesOnTest_l0_b  h = some z) (HL : ∀ s : jH, z = .inl s → jEx X (dd + 1) jc_307 0 [some (.ref 110)] [] (176, jRf p d q, s) Q) (HE0 : ∀ x : jH, z = .inr x → jEx X (dd + 1) jc_307 76 [some (.ref 110)] [] (176, jRf p d q, x) Q) :
    jEx X (dd + 1) jc_307 0 [some (.ref 110)] [] (176, jRf p d q, h) Q := by
  unfold fM_qGoesOnTest_l0_b at K
  refine jx_next (pc := 0) (pc' := 1) rfl rfl ?_
  refine jx_geti (pc := 1) rfl jko_110 ?_
  refine jx_ifne (pc := 4) rfl (fun hc1 => ?_) (fun hc1 => ?_)
  · replace K := (if_pos hc1).symm.trans K
    refine jx_next (pc := 7) (pc' := 8) rfl rfl ?_
    refine jx_callv (pc := 8) (o := 110) (rest := []) rfl ⟨by decide, by decide⟩ rfl jko_110 (Nat.le_of_ble_eq_true rfl) ?_
    obtain ⟨z2, hz_z2, K⟩ := Option.bind_eq_some_iff.mp K
    refine kM_look  (by omega) hz_z2 ?_
    refine jx_next (pc := 11) (pc' := 13) rfl rfl ?_
    refine jx_icne (pc := 13) rfl (fun hc3 => ?_) (fun hc3 => ?_)
    · replace K := (if_pos hc3).symm.trans K
      refine jx_next (pc := 16) (pc' := 17) rfl rfl ?_
      refine jx_callv (pc := 17) (o := 110) (rest := []) rfl ⟨by decide, by decide⟩ rfl jko_110 (Nat.le_of_ble_eq_true rfl) ?_
      obtain ⟨z4, hz_z4, K⟩ := Option.bind_eq_some_iff.mp K
      refine kM_qHasSquare  (by omega) hz_z4 ?_
      refine jx_ifeq (pc := 20) rfl (fun hc5 => ?_) (fun hc5 => ?_)
      · replace K := (if_pos hc5).symm.trans K
        obtain rfl := Option.some.inj K
        refine jx_le (pl' := [some (.ref 110)]) (jle_v jle_nil) ?_
        exact HE0 _ rfl
      · replace K := (if_neg hc5).symm.trans K
        refine jx_next (pc := 23) (pc' := 24) rfl rfl ?_
        refine jx_next (pc := 24) (pc' := 25) rfl rfl ?_
        refine jx_geti (pc := 25) rfl jko_110 ?_
        refine jx_next (pc := 28) (pc' := 29) rfl rfl ?_
        refine jx_next (pc := 29) (pc' := 30) rfl rfl ?_
        refine jx_puti (pc := 30) rfl jko_110 ?_
        refine jx_le (pl' := [some (.ref 110)]) (jle_v jle_nil) ?_
        obtain ⟨x9, hz_x9, K⟩ := Option.bind_eq_some_iff.mp K
        refine kM_qGoesOnTest_l33_w  hd hz_x9 ?_
        refine jx_next (pc := 49) (pc' := 50) rfl rfl ?_
        refine jx_next (pc := 50) (pc' := 51) rfl rfl ?_
        refine jx_geti (pc := 51) rfl jko_110 ?_
        refine jx_next (pc := 54) (pc' := 55) rfl rfl ?_
        refine jx_next (pc := 55) (pc' := 56) rfl rfl ?_
        refine jx_puti (pc := 56) rfl jko_110 ?_
        refine jx_next (pc := 59) (pc' := 60) rfl rfl ?_
        refine jx_next (pc := 60) (pc' := 61) rfl rfl ?_
        refine jx_geti (pc := 61) rfl jko_110 ?_
        refine jx_next (pc := 64) (pc' := 65) rfl rfl ?_
        refine jx_next (pc := 65) (pc' := 66) rfl rfl ?_
        refine jx_puti (pc := 66) rfl jko_110 ?_
        refine jx_next (pc := 69) (pc' := 70) rfl rfl ?_
        refine jx_callv (pc := 70) (o := 110) (rest := []) rfl ⟨by decide, by decide⟩ rfl jko_110 (Nat.le_of_ble_eq_true rfl) ?_
        obtain ⟨z10, hz_z10, K⟩ := Option.bind_eq_some_iff.mp K
        refine kM_qDropsNots  (by omega) hz_z10 ?_
        refine jx_next (pc := 73) (pc' := 0) rfl rfl ?_
        obtain rfl := Option.some.inj K
        refine jx_le (pl' := [some (.ref 110)]) (jle_v jle_nil) ?_
        exact HL z10 rfl
    · replace K := (if_neg hc3).symm.trans K
      obtain rfl := Option.some.inj K
      refine jx_le (pl' := [some (.ref 110)]) (jle_v jle_nil) ?_
      exact HE0 _ rfl
  · replace K := (if_neg hc1).symm.trans K
    obtain rfl := Option.some.inj K
    refine jx_le (pl' := [some (.ref 110)]) (jle_v jle_nil) ?_
    exact HE0 _ rfl
theorem kM_qGoesOnTest_l0_w {X : jX} {dd : Nat} {p d : Nat} {q : Nat → Nat} {Q : Option Value → jS → Prop}   (hd : 3 ≤ (dd + 1)) {s : jH} {x : jH} (K : jlim (fM_qGoesOnTest_l0 ) s = some x) (HE : jEx X (dd + 1) jc_307 76 [some (.ref 110)] [] (176, jRf p d q, x) Q) :
    jEx X (dd + 1) jc_307 0 [some (.ref 110)] [] (176, jRf p d q, s) Q := by
  refine jlim_ok (G := fun s : jH => jEx X (dd + 1) jc_307 0 [some (.ref 110)] [] (176, jRf p d q, s) Q) (GX := fun x : jH => jEx X (dd + 1) jc_307 76 [some (.ref 110)] [] (176, jRf p d q, x) Q) (fun s z hz HL HE => ?_) K HE
  exact kM_qGoesOnTest_l0_b  hd hz HL HE
noncomputable def fM_qGoesOnTest_l137_j155  (h : jH) : Option ((jH) ⊕ (jH)) :=
  (Option.bind (fM_qDrops h) (fun (z24 : jH) =>
  some (.inl z24)))
theorem kM_qGoesOnTest_l137_j155 {X : jX} {dd : Nat} {p d : Nat} {q : Nat → Nat} {Q : Option Value → jS → Prop}  {h : jH}  (hd : 3 ≤ (dd + 1)) {z : (jH) ⊕ (jH)} (K : fM_qGoesOnTest_l137_j155  h = some z) (HL : ∀ s : jH, z = .inl s → jEx X (dd + 1) jc_307 137 [some (.ref 110)] [] (176, jRf p d q, s) Q) (HE0 : ∀ x : jH, z = .inr x → jEx X (dd + 1) jc_307 162 [some (.ref 110)] [] (176, jRf p d q, x) Q) :
    jEx X (dd + 1) jc_307 155 [some (.ref 110)] [] (176, jRf p d q, h) Q := by
  unfold fM_qGoesOnTest_l137_j155 at K
  refine jx_next (pc := 155) (pc' := 156) rfl rfl ?_
  refine jx_callv (pc := 156) (o := 110) (rest := []) rfl ⟨by decide, by decide⟩ rfl jko_110 (Nat.le_of_ble_eq_true rfl) ?_
  obtain ⟨z24, hz_z24, K⟩ := Option.bind_eq_some_iff.mp K
  refine kM_qDrops  (by omega) hz_z24 ?_
  refine jx_next (pc := 159) (pc' := 137) rfl rfl ?_
  obtain rfl := Option.some.inj K
  refine jx_le (pl' := [some (.ref 110)]) (jle_v jle_nil) ?_
  exact HL z24 rfl
noncomputable def fM_qGoesOnTest_l137_b  (h : jH) : Option ((jH) ⊕ (jH)) :=
  (Option.bind (fM_qIsOn 10 h) (fun (z20 : Int32) =>
  (if z20 = 0 then
  (Option.bind (fM_qIsOn 11 h) (fun (z22 : Int32) =>
  (if z22 = 0 then
  some (.inr h)
  else
  fM_qGoesOnTest_l137_j155  h)))
  else
  fM_qGoesOnTest_l137_j155  h)))
noncomputable def fM_qGoesOnTest_l137  : jH → Option ((jH) ⊕ (jH)) :=
  fun (s : jH) => fM_qGoesOnTest_l137_b  s
theorem kM_qGoesOnTest_l137_b {X : jX} {dd : Nat} {p d : Nat} {q : Nat → Nat} {Q : Option Value → jS → Prop}  {h : jH}  (hd : 3 ≤ (dd + 1)) {z : (jH) ⊕ (jH)} (K : fM_qGoesOnTest_l137_b  h = some z) (HL : ∀ s : jH, z = .inl s → jEx X (dd + 1) jc_307 137 [some (.ref 110)] [] (176, jRf p d q, s) Q) (HE0 : ∀ x : jH, z = .inr x → jEx X (dd + 1) jc_307 162 [some (.ref 110)] [] (176, jRf p d q, x) Q) :
    jEx X (dd + 1) jc_307 137 [some (.ref 110)] [] (176, jRf p d q, h) Q := by
  unfold fM_qGoesOnTest_l137_b at K
  refine jx_next (pc := 137) (pc' := 138) rfl rfl ?_
  refine jx_next (pc := 138) (pc' := 140) rfl rfl ?_
  refine jx_callv (pc := 140) (o := 110) (rest := []) rfl ⟨by decide, by decide⟩ rfl jko_110 (Nat.le_of_ble_eq_true rfl) ?_
  obtain ⟨z20, hz_z20, K⟩ := Option.bind_eq_some_iff.mp K
  refine kM_qIsOn  (by omega) hz_z20 ?_
  refine jx_ifne (pc := 143) rfl (fun hc21 => ?_) (fun hc21 => ?_)
  · replace K := (if_pos hc21).symm.trans K
    refine jx_next (pc := 146) (pc' := 147) rfl rfl ?_
    refine jx_next (pc := 147) (pc' := 149) rfl rfl ?_
    refine jx_callv (pc := 149) (o := 110) (rest := []) rfl ⟨by decide, by decide⟩ rfl jko_110 (Nat.le_of_ble_eq_true rfl) ?_
    obtain ⟨z22, hz_z22, K⟩ := Option.bind_eq_some_iff.mp K
    refine kM_qIsOn  (by omega) hz_z22 ?_
    refine jx_ifeq (pc := 152) rfl (fun hc23 => ?_) (fun hc23 => ?_)
    · replace K := (if_pos hc23).symm.trans K
      obtain rfl := Option.some.inj K
      refine jx_le (pl' := [some (.ref 110)]) (jle_v jle_nil) ?_
      exact HE0 _ rfl
    · replace K := (if_neg hc23).symm.trans K
      refine jx_le (pl' := [some (.ref 110)]) (jle_v jle_nil) ?_
      exact kM_qGoesOnTest_l137_j155  hd K HL HE0
  · replace K := (if_neg hc21).symm.trans K
    refine jx_le (pl' := [some (.ref 110)]) (jle_v jle_nil) ?_
    exact kM_qGoesOnTest_l137_j155  hd K HL HE0
theorem kM_qGoesOnTest_l137_w {X : jX} {dd : Nat} {p d : Nat} {q : Nat → Nat} {Q : Option Value → jS → Prop}   (hd : 3 ≤ (dd + 1)) {s : jH} {x : jH} (K : jlim (fM_qGoesOnTest_l137 ) s = some x) (HE : jEx X (dd + 1) jc_307 162 [some (.ref 110)] [] (176, jRf p d q, x) Q) :
    jEx X (dd + 1) jc_307 137 [some (.ref 110)] [] (176, jRf p d q, s) Q := by
  refine jlim_ok (G := fun s : jH => jEx X (dd + 1) jc_307 137 [some (.ref 110)] [] (176, jRf p d q, s) Q) (GX := fun x : jH => jEx X (dd + 1) jc_307 162 [some (.ref 110)] [] (176, jRf p d q, x) Q) (fun s z hz HL HE => ?_) K HE
  exact kM_qGoesOnTest_l137_b  hd hz HL HE
noncomputable def fM_qGoesOnTest_l87_b  (h : jH) : Option ((jH) ⊕ (jH)) :=
  (Option.bind (fM_qIsOn 10 h) (fun (z27 : Int32) =>
  (if z27 = 0 then
  some (.inr h)
  else
  (Option.bind (fM_qDrops h) (fun (z29 : jH) =>
  some (.inl z29))))))
noncomputable def fM_qGoesOnTest_l87  : jH → Option ((jH) ⊕ (jH)) :=
  fun (s : jH) => fM_qGoesOnTest_l87_b  s
theorem kM_qGoesOnTest_l87_b {X : jX} {dd : Nat} {p d : Nat} {q : Nat → Nat} {Q : Option Value → jS → Prop}  {h : jH}  (hd : 3 ≤ (dd + 1)) {z : (jH) ⊕ (jH)} (K : fM_qGoesOnTest_l87_b  h = some z) (HL : ∀ s : jH, z = .inl s → jEx X (dd + 1) jc_307 87 [some (.ref 110)] [] (176, jRf p d q, s) Q) (HE0 : ∀ x : jH, z = .inr x → jEx X (dd + 1) jc_307 103 [some (.ref 110)] [] (176, jRf p d q, x) Q) :
    jEx X (dd + 1) jc_307 87 [some (.ref 110)] [] (176, jRf p d q, h) Q := by
  unfold fM_qGoesOnTest_l87_b at K
  refine jx_next (pc := 87) (pc' := 88) rfl rfl ?_
  refine jx_next (pc := 88) (pc' := 90) rfl rfl ?_
  refine jx_callv (pc := 90) (o := 110) (rest := []) rfl ⟨by decide, by decide⟩ rfl jko_110 (Nat.le_of_ble_eq_true rfl) ?_
  obtain ⟨z27, hz_z27, K⟩ := Option.bind_eq_some_iff.mp K
  refine kM_qIsOn  (by omega) hz_z27 ?_
  refine jx_ifeq (pc := 93) rfl (fun hc28 => ?_) (fun hc28 => ?_)
  · replace K := (if_pos hc28).symm.trans K
    obtain rfl := Option.some.inj K
    refine jx_le (pl' := [some (.ref 110)]) (jle_v jle_nil) ?_
    exact HE0 _ rfl
  · replace K := (if_neg hc28).symm.trans K
    refine jx_next (pc := 96) (pc' := 97) rfl rfl ?_
    refine jx_callv (pc := 97) (o := 110) (rest := []) rfl ⟨by decide, by decide⟩ rfl jko_110 (Nat.le_of_ble_eq_true rfl) ?_
    obtain ⟨z29, hz_z29, K⟩ := Option.bind_eq_some_iff.mp K
    refine kM_qDrops  (by omega) hz_z29 ?_
    refine jx_next (pc := 100) (pc' := 87) rfl rfl ?_
    obtain rfl := Option.some.inj K
    refine jx_le (pl' := [some (.ref 110)]) (jle_v jle_nil) ?_
    exact HL z29 rfl
theorem kM_qGoesOnTest_l87_w {X : jX} {dd : Nat} {p d : Nat} {q : Nat → Nat} {Q : Option Value → jS → Prop}   (hd : 3 ≤ (dd + 1)) {s : jH} {x : jH} (K : jlim (fM_qGoesOnTest_l87 ) s = some x) (HE : jEx X (dd + 1) jc_307 103 [some (.ref 110)] [] (176, jRf p d q, x) Q) :
    jEx X (dd + 1) jc_307 87 [some (.ref 110)] [] (176, jRf p d q, s) Q := by
  refine jlim_ok (G := fun s : jH => jEx X (dd + 1) jc_307 87 [some (.ref 110)] [] (176, jRf p d q, s) Q) (GX := fun x : jH => jEx X (dd + 1) jc_307 103 [some (.ref 110)] [] (176, jRf p d q, x) Q) (fun s z hz HL HE => ?_) K HE
  exact kM_qGoesOnTest_l87_b  hd hz HL HE
/-- AndGuestModel.qGoesOnTest()Z -/
noncomputable def fM_qGoesOnTest  (h : jH) : Option (Int32 × jH) :=
  (Option.bind (jlim (fM_qGoesOnTest_l0 ) h) (fun (x11 : jH) =>
  (Option.bind (fM_takes 160 x11) (fun (z12 : Int32 × jH) =>
  (if z12.1 = 0 then
  (Option.bind (fM_takes 161 z12.2) (fun (z14 : Int32 × jH) =>
  (if z14.1 = 0 then
  (if (z14.2.1 110 5) = 0 then
  (Option.bind (fM_qHasSquare z14.2) (fun (z17 : Int32) =>
  (if z17 = 0 then
  some (0, z14.2)
  else
  some (0, (fM_fail 1 (z14.2.1 110 2) z14.2)))))
  else
  some (0, z14.2))
  else
  (Option.bind (jlim (fM_qGoesOnTest_l137 ) z14.2) (fun (x25 : jH) =>
  (if jin (x25.1 110 82) 1700 then
  some (1, jhI (jhI x25 174 (x25.1 110 82).toNatClampNeg 11) 110 82 (((jhI x25 174 (x25.1 110 82).toNatClampNeg 11).1 110 82) + 1))
  else none))))))
  else
  (Option.bind (jlim (fM_qGoesOnTest_l87 ) z12.2) (fun (x30 : jH) =>
  (if jin (x30.1 110 82) 1700 then
  some (1, jhI (jhI x30 174 (x30.1 110 82).toNatClampNeg 10) 110 82 (((jhI x30 174 (x30.1 110 82).toNatClampNeg 10).1 110 82) + 1))
  else none))))))))
theorem kM_qGoesOnTest {X : jX} {dd : Nat} {p d : Nat} {q : Nat → Nat} {Q : Option Value → jS → Prop}  {h : jH}  (hd : 3 ≤ dd) {z : Int32 × jH} (K : fM_qGoesOnTest  h = some z) (HQ : Q (some (.int z.1)) (176, jRf p d q, z.2)) :
    jCa X dd 307 [.ref 110] (176, jRf p d q, h) Q := by
  obtain ⟨dd, rfl⟩ : ∃ d9, dd = d9 + 1 := ⟨dd - 1, by omega⟩
  unfold fM_qGoesOnTest at K
  refine jCa_of (es := jc_307) (pl := [some (.ref 110)]) (M := jm_307) rfl rfl rfl rfl ?_
  refine jx_le (pl' := [some (.ref 110)]) (jle_v jle_nil) ?_
  obtain ⟨x11, hz_x11, K⟩ := Option.bind_eq_some_iff.mp K
  refine kM_qGoesOnTest_l0_w  hd hz_x11 ?_
  refine jx_next (pc := 76) (pc' := 77) rfl rfl ?_
  refine jx_next (pc := 77) (pc' := 78) rfl rfl ?_
  refine jx_getr2 (pc := 78) rfl jko_110 jr_12_66 ?_
  refine jx_callv (pc := 81) (o := 110) (rest := []) rfl ⟨by decide, by decide⟩ rfl jko_110 (Nat.le_of_ble_eq_true rfl) ?_
  obtain ⟨z12, hz_z12, K⟩ := Option.bind_eq_some_iff.mp K
  refine kM_takes  jko_160 (by omega) hz_z12 ?_
  refine jx_ifeq (pc := 84) rfl (fun hc13 => ?_) (fun hc13 => ?_)
  · replace K := (if_pos hc13).symm.trans K
    refine jx_next (pc := 126) (pc' := 127) rfl rfl ?_
    refine jx_next (pc := 127) (pc' := 128) rfl rfl ?_
    refine jx_getr2 (pc := 128) rfl jko_110 jr_12_67 ?_
    refine jx_callv (pc := 131) (o := 110) (rest := []) rfl ⟨by decide, by decide⟩ rfl jko_110 (Nat.le_of_ble_eq_true rfl) ?_
    obtain ⟨z14, hz_z14, K⟩ := Option.bind_eq_some_iff.mp K
    refine kM_takes  jko_161 (by omega) hz_z14 ?_
    refine jx_ifeq (pc := 134) rfl (fun hc15 => ?_) (fun hc15 => ?_)
    · replace K := (if_pos hc15).symm.trans K
      refine jx_next (pc := 185) (pc' := 186) rfl rfl ?_
      refine jx_geti (pc := 186) rfl jko_110 ?_
      refine jx_ifne (pc := 189) rfl (fun hc16 => ?_) (fun hc16 => ?_)
      · replace K := (if_pos hc16).symm.trans K
        refine jx_next (pc := 192) (pc' := 193) rfl rfl ?_
        refine jx_callv (pc := 193) (o := 110) (rest := []) rfl ⟨by decide, by decide⟩ rfl jko_110 (Nat.le_of_ble_eq_true rfl) ?_
        obtain ⟨z17, hz_z17, K⟩ := Option.bind_eq_some_iff.mp K
        refine kM_qHasSquare  (by omega) hz_z17 ?_
        refine jx_ifeq (pc := 196) rfl (fun hc18 => ?_) (fun hc18 => ?_)
        · replace K := (if_pos hc18).symm.trans K
          refine jx_next (pc := 208) (pc' := 209) rfl rfl ?_
          obtain rfl := Option.some.inj K
          exact jx_zret (pc := 209) rfl (Or.inl rfl) HQ
        · replace K := (if_neg hc18).symm.trans K
          refine jx_next (pc := 199) (pc' := 200) rfl rfl ?_
          refine jx_next (pc := 200) (pc' := 201) rfl rfl ?_
          refine jx_next (pc := 201) (pc' := 202) rfl rfl ?_
          refine jx_geti (pc := 202) rfl jko_110 ?_
          refine jx_callv (pc := 205) (o := 110) (rest := []) rfl ⟨by decide, by decide⟩ rfl jko_110 (Nat.le_of_ble_eq_true rfl) ?_
          refine kM_fail  (by omega) rfl ?_
          refine jx_next (pc := 208) (pc' := 209) rfl rfl ?_
          obtain rfl := Option.some.inj K
          exact jx_zret (pc := 209) rfl (Or.inl rfl) HQ
      · replace K := (if_neg hc16).symm.trans K
        refine jx_next (pc := 208) (pc' := 209) rfl rfl ?_
        obtain rfl := Option.some.inj K
        exact jx_zret (pc := 209) rfl (Or.inl rfl) HQ
    · replace K := (if_neg hc15).symm.trans K
      refine jx_le (pl' := [some (.ref 110)]) (jle_v jle_nil) ?_
      obtain ⟨x25, hz_x25, K⟩ := Option.bind_eq_some_iff.mp K
      refine kM_qGoesOnTest_l137_w  hd hz_x25 ?_
      refine jx_next (pc := 162) (pc' := 163) rfl rfl ?_
      refine jx_getr2 (pc := 163) rfl jko_110 jr_12_81 ?_
      refine jx_next (pc := 166) (pc' := 167) rfl rfl ?_
      refine jx_geti (pc := 167) rfl jko_110 ?_
      refine jx_next (pc := 170) (pc' := 172) rfl rfl ?_
      obtain ⟨hg26, K⟩ := jguard K
      refine jx_iast2 (pc := 172) rfl jko_174 jno_174 hg26 ?_
      refine jx_next (pc := 173) (pc' := 174) rfl rfl ?_
      refine jx_next (pc := 174) (pc' := 175) rfl rfl ?_
      refine jx_geti (pc := 175) rfl jko_110 ?_
      refine jx_next (pc := 178) (pc' := 179) rfl rfl ?_
      refine jx_next (pc := 179) (pc' := 180) rfl rfl ?_
      refine jx_puti (pc := 180) rfl jko_110 ?_
      refine jx_next (pc := 183) (pc' := 184) rfl rfl ?_
      obtain rfl := Option.some.inj K
      exact jx_zret (pc := 184) rfl (Or.inr rfl) HQ
  · replace K := (if_neg hc13).symm.trans K
    refine jx_le (pl' := [some (.ref 110)]) (jle_v jle_nil) ?_
    obtain ⟨x30, hz_x30, K⟩ := Option.bind_eq_some_iff.mp K
    refine kM_qGoesOnTest_l87_w  hd hz_x30 ?_
    refine jx_next (pc := 103) (pc' := 104) rfl rfl ?_
    refine jx_getr2 (pc := 104) rfl jko_110 jr_12_81 ?_
    refine jx_next (pc := 107) (pc' := 108) rfl rfl ?_
    refine jx_geti (pc := 108) rfl jko_110 ?_
    refine jx_next (pc := 111) (pc' := 113) rfl rfl ?_
    obtain ⟨hg31, K⟩ := jguard K
    refine jx_iast2 (pc := 113) rfl jko_174 jno_174 hg31 ?_
    refine jx_next (pc := 114) (pc' := 115) rfl rfl ?_
    refine jx_next (pc := 115) (pc' := 116) rfl rfl ?_
    refine jx_geti (pc := 116) rfl jko_110 ?_
    refine jx_next (pc := 119) (pc' := 120) rfl rfl ?_
    refine jx_next (pc := 120) (pc' := 121) rfl rfl ?_
    refine jx_puti (pc := 121) rfl jko_110 ?_
    refine jx_next (pc := 124) (pc' := 125) rfl rfl ?_
    obtain rfl := Option.some.inj K
    exact jx_zret (pc := 125) rfl (Or.inr rfl) HQ
