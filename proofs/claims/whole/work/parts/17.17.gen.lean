noncomputable def fM_isImage_j75  (h : jH) : Option Int32 :=
  (Option.bind (fM_areGuestsTold h) (fun (z11 : Int32) =>
  (if z11 = 0 then
  some (0 : Int32)
  else
  some (1 : Int32))))
theorem kM_isImage_j75 {X : jX} {dd : Nat} {p d : Nat} {q : Nat → Nat} {Q : Option Value → jS → Prop}  {h : jH}  (hd : 2 ≤ (dd + 1)) {z : Int32} (K : fM_isImage_j75  h = some z) (HQ : Q (some (.int z)) (176, jRf p d q, h)) :
    jEx X (dd + 1) jc_318 75 [some (.ref 110), none] [] (176, jRf p d q, h) Q := by
  unfold fM_isImage_j75 at K
  refine jx_next (pc := 75) (pc' := 76) rfl rfl ?_
  refine jx_callv (pc := 76) (o := 110) (rest := []) rfl ⟨by decide, by decide⟩ rfl jko_110 (Nat.le_of_ble_eq_true rfl) ?_
  obtain ⟨z11, hz_z11, K⟩ := Option.bind_eq_some_iff.mp K
  refine kM_areGuestsTold  (by omega) hz_z11 ?_
  refine jx_ifeq (pc := 79) rfl (fun hc12 => ?_) (fun hc12 => ?_)
  · replace K := (if_pos hc12).symm.trans K
    refine jx_next (pc := 86) (pc' := 87) rfl rfl ?_
    obtain rfl := Option.some.inj K
    exact jx_zret (pc := 87) rfl (Or.inl rfl) HQ
  · replace K := (if_neg hc12).symm.trans K
    refine jx_next (pc := 82) (pc' := 83) rfl rfl ?_
    refine jx_next (pc := 83) (pc' := 87) rfl rfl ?_
    obtain rfl := Option.some.inj K
    exact jx_zret (pc := 87) rfl (Or.inr rfl) HQ
/-- AndGuestModel.isImage(I)Z -/
noncomputable def fM_isImage (v1 : Int32) (h : jH) : Option Int32 :=
  (if (h.1 110 48) = 0 then
  some (0 : Int32)
  else
  (Option.bind (fM_guestMany h) (fun (z2 : Int32) =>
  (if v1 = (5 + (3 * z2)) then
  (if jin (v1 - 1) 1600 then
  (Option.bind (fM_checked 111 (v1 - 1) h) (fun (z5 : Int32) =>
  (if (h.1 111 (v1 - 1).toNatClampNeg) = z5 then
  (Option.bind (fM_twoAt 0 h) (fun (z7 : Int32) =>
  (if 999 < z7 then
  some (0 : Int32)
  else
  (Option.bind (fM_twoAt 2 h) (fun (z9 : Int32) =>
  (if z9 = 65535 then
  fM_isImage_j75  h
  else
  (Option.bind (fM_twoAt 2 h) (fun (z13 : Int32) =>
  (Option.bind (fM_twoAt 0 h) (fun (z14 : Int32) =>
  (if z14 < z13 then
  some (0 : Int32)
  else
  fM_isImage_j75  h)))))))))))
  else
  some (0 : Int32))))
  else none)
  else
  some (0 : Int32)))))
theorem kM_isImage {X : jX} {dd : Nat} {p d : Nat} {q : Nat → Nat} {Q : Option Value → jS → Prop} {v1 : Int32} {h : jH}  (hd : 2 ≤ dd) {z : Int32} (K : fM_isImage v1 h = some z) (HQ : Q (some (.int z)) (176, jRf p d q, h)) :
    jCa X dd 318 [.ref 110, .int v1] (176, jRf p d q, h) Q := by
  obtain ⟨dd, rfl⟩ : ∃ d9, dd = d9 + 1 := ⟨dd - 1, by omega⟩
  unfold fM_isImage at K
  refine jCa_of (es := jc_318) (pl := [some (.ref 110), some (.int v1)]) (M := jm_318) rfl rfl rfl rfl ?_
  refine jx_next (pc := 0) (pc' := 1) rfl rfl ?_
  refine jx_getz (pc := 1) rfl jko_110 ?_
  refine jx_ifeq (pc := 4) rfl (fun hc1 => ?_) (fun hc1 => ?_)
  · replace K := (if_pos hc1).symm.trans K
    refine jx_next (pc := 86) (pc' := 87) rfl rfl ?_
    obtain rfl := Option.some.inj K
    exact jx_zret (pc := 87) rfl (Or.inl rfl) HQ
  · replace K := (if_neg hc1).symm.trans K
    refine jx_next (pc := 7) (pc' := 8) rfl rfl ?_
    refine jx_next (pc := 8) (pc' := 9) rfl rfl ?_
    refine jx_next (pc := 9) (pc' := 10) rfl rfl ?_
    refine jx_next (pc := 10) (pc' := 11) rfl rfl ?_
    refine jx_callv (pc := 11) (o := 110) (rest := [.int 3, .int 5, .int v1]) rfl ⟨by decide, by decide⟩ rfl jko_110 (Nat.le_of_ble_eq_true rfl) ?_
    obtain ⟨z2, hz_z2, K⟩ := Option.bind_eq_some_iff.mp K
    refine kM_guestMany  (by omega) hz_z2 ?_
    refine jx_next (pc := 14) (pc' := 15) rfl rfl ?_
    refine jx_next (pc := 15) (pc' := 16) rfl rfl ?_
    refine jx_icne (pc := 16) rfl (fun hc3 => ?_) (fun hc3 => ?_)
    · replace K := (if_pos hc3).symm.trans K
      refine jx_next (pc := 19) (pc' := 20) rfl rfl ?_
      refine jx_getr2 (pc := 20) rfl jko_110 jr_12_0 ?_
      refine jx_next (pc := 23) (pc' := 24) rfl rfl ?_
      refine jx_next (pc := 24) (pc' := 25) rfl rfl ?_
      refine jx_next (pc := 25) (pc' := 26) rfl rfl ?_
      obtain ⟨hg4, K⟩ := jguard K
      refine jx_iald2 (pc := 26) rfl jko_111 jno_111 hg4 ?_
      refine jx_next (pc := 27) (pc' := 28) rfl rfl ?_
      refine jx_getr2 (pc := 28) rfl jko_110 jr_12_0 ?_
      refine jx_next (pc := 31) (pc' := 32) rfl rfl ?_
      refine jx_next (pc := 32) (pc' := 33) rfl rfl ?_
      refine jx_next (pc := 33) (pc' := 34) rfl rfl ?_
      refine jx_calls (pc := 34) rfl (Nat.le_of_ble_eq_true rfl) (Nat.le_of_ble_eq_true rfl) ?_
      obtain ⟨z5, hz_z5, K⟩ := Option.bind_eq_some_iff.mp K
      refine kM_checked  jko_111 (by omega) hz_z5 ?_
      refine jx_icne (pc := 37) rfl (fun hc6 => ?_) (fun hc6 => ?_)
      · replace K := (if_pos hc6).symm.trans K
        refine jx_next (pc := 40) (pc' := 41) rfl rfl ?_
        refine jx_next (pc := 41) (pc' := 42) rfl rfl ?_
        refine jx_callv (pc := 42) (o := 110) (rest := []) rfl ⟨by decide, by decide⟩ rfl jko_110 (Nat.le_of_ble_eq_true rfl) ?_
        obtain ⟨z7, hz_z7, K⟩ := Option.bind_eq_some_iff.mp K
        refine kM_twoAt  (by omega) hz_z7 ?_
        refine jx_next (pc := 45) (pc' := 48) rfl rfl ?_
        refine jx_icgt (pc := 48) rfl (fun hc8 => ?_) (fun hc8 => ?_)
        · replace K := (if_pos hc8).symm.trans K
          refine jx_next (pc := 86) (pc' := 87) rfl rfl ?_
          obtain rfl := Option.some.inj K
          exact jx_zret (pc := 87) rfl (Or.inl rfl) HQ
        · replace K := (if_neg hc8).symm.trans K
          refine jx_next (pc := 51) (pc' := 52) rfl rfl ?_
          refine jx_next (pc := 52) (pc' := 53) rfl rfl ?_
          refine jx_callv (pc := 53) (o := 110) (rest := []) rfl ⟨by decide, by decide⟩ rfl jko_110 (Nat.le_of_ble_eq_true rfl) ?_
          obtain ⟨z9, hz_z9, K⟩ := Option.bind_eq_some_iff.mp K
          refine kM_twoAt  (by omega) hz_z9 ?_
          refine jx_next (pc := 56) (pc' := 59) rfl rfl ?_
          refine jx_iceq (pc := 59) rfl (fun hc10 => ?_) (fun hc10 => ?_)
          · replace K := (if_pos hc10).symm.trans K
            refine jx_le (pl' := [some (.ref 110), none]) (jle_v (jle_n jle_nil)) ?_
            exact kM_isImage_j75  hd K HQ
          · replace K := (if_neg hc10).symm.trans K
            refine jx_next (pc := 62) (pc' := 63) rfl rfl ?_
            refine jx_next (pc := 63) (pc' := 64) rfl rfl ?_
            refine jx_callv (pc := 64) (o := 110) (rest := []) rfl ⟨by decide, by decide⟩ rfl jko_110 (Nat.le_of_ble_eq_true rfl) ?_
            obtain ⟨z13, hz_z13, K⟩ := Option.bind_eq_some_iff.mp K
            refine kM_twoAt  (by omega) hz_z13 ?_
            refine jx_next (pc := 67) (pc' := 68) rfl rfl ?_
            refine jx_next (pc := 68) (pc' := 69) rfl rfl ?_
            refine jx_callv (pc := 69) (o := 110) (rest := [.int z13]) rfl ⟨by decide, by decide⟩ rfl jko_110 (Nat.le_of_ble_eq_true rfl) ?_
            obtain ⟨z14, hz_z14, K⟩ := Option.bind_eq_some_iff.mp K
            refine kM_twoAt  (by omega) hz_z14 ?_
            refine jx_icgt (pc := 72) rfl (fun hc15 => ?_) (fun hc15 => ?_)
            · replace K := (if_pos hc15).symm.trans K
              refine jx_next (pc := 86) (pc' := 87) rfl rfl ?_
              obtain rfl := Option.some.inj K
              exact jx_zret (pc := 87) rfl (Or.inl rfl) HQ
            · replace K := (if_neg hc15).symm.trans K
              refine jx_le (pl' := [some (.ref 110), none]) (jle_v (jle_n jle_nil)) ?_
              exact kM_isImage_j75  hd K HQ
      · replace K := (if_neg hc6).symm.trans K
        refine jx_next (pc := 86) (pc' := 87) rfl rfl ?_
        obtain rfl := Option.some.inj K
        exact jx_zret (pc := 87) rfl (Or.inl rfl) HQ
    · replace K := (if_neg hc3).symm.trans K
      refine jx_next (pc := 86) (pc' := 87) rfl rfl ?_
      obtain rfl := Option.some.inj K
      exact jx_zret (pc := 87) rfl (Or.inl rfl) HQ
noncomputable def fM_on_l69_b (v2 : Int32) (h : jH) : Option ((Int32 × jH) ⊕ (jH)) :=
  (Option.bind (fM_guestMany h) (fun (z10 : Int32) =>
  (if v2 < z10 then
  (if jin (4 + (3 * v2)) 1600 then
  (if jin (2 + (2 * v2)) 18 then
  (Option.bind (fM_twoAt (5 + (3 * v2)) (jhI h 148 (2 + (2 * v2)).toNatClampNeg (h.1 111 (4 + (3 * v2)).toNatClampNeg))) (fun (z14 : Int32) =>
  (if jin ((2 + (2 * v2)) + 1) 18 then
  some (.inl (v2 + 1, jhI (jhI h 148 (2 + (2 * v2)).toNatClampNeg (h.1 111 (4 + (3 * v2)).toNatClampNeg)) 148 ((2 + (2 * v2)) + 1).toNatClampNeg z14))
  else none)))
  else none)
  else none)
  else
  some (.inr h))))
noncomputable def fM_on_l69  : (Int32 × jH) → Option ((Int32 × jH) ⊕ (jH)) :=
  fun (s : Int32 × jH) => fM_on_l69_b s.1 s.2
theorem kM_on_l69_b {X : jX} {dd : Nat} {p d : Nat} {q : Nat → Nat} {Q : Option Value → jS → Prop} {v2 : Int32} {h : jH}  (hd : 3 ≤ (dd + 1)) {z : (Int32 × jH) ⊕ (jH)} (K : fM_on_l69_b v2 h = some z) (HL : ∀ s : Int32 × jH, z = .inl s → jEx X (dd + 1) jc_317 69 [some (.ref 110), none, some (.int s.1)] [] (176, jRf p d q, s.2) Q) (HE0 : ∀ x : jH, z = .inr x → jEx X (dd + 1) jc_317 124 [some (.ref 110), none, none] [] (176, jRf p d q, x) Q) :
    jEx X (dd + 1) jc_317 69 [some (.ref 110), none, some (.int v2)] [] (176, jRf p d q, h) Q := by
  unfold fM_on_l69_b at K
  refine jx_next (pc := 69) (pc' := 70) rfl rfl ?_
  refine jx_next (pc := 70) (pc' := 71) rfl rfl ?_
  refine jx_callv (pc := 71) (o := 110) (rest := [.int v2]) rfl ⟨by decide, by decide⟩ rfl jko_110 (Nat.le_of_ble_eq_true rfl) ?_
  obtain ⟨z10, hz_z10, K⟩ := Option.bind_eq_some_iff.mp K
  refine kM_guestMany  (by omega) hz_z10 ?_
  refine jx_icge (pc := 74) rfl (fun hc11 => ?_) (fun hc11 => ?_)
  · replace K := (if_pos hc11).symm.trans K
    refine jx_next (pc := 77) (pc' := 78) rfl rfl ?_
    refine jx_getr2 (pc := 78) rfl jko_110 jr_12_50 ?_
    refine jx_next (pc := 81) (pc' := 82) rfl rfl ?_
    refine jx_next (pc := 82) (pc' := 83) rfl rfl ?_
    refine jx_next (pc := 83) (pc' := 84) rfl rfl ?_
    refine jx_next (pc := 84) (pc' := 85) rfl rfl ?_
    refine jx_next (pc := 85) (pc' := 86) rfl rfl ?_
    refine jx_next (pc := 86) (pc' := 87) rfl rfl ?_
    refine jx_getr2 (pc := 87) rfl jko_110 jr_12_0 ?_
    refine jx_next (pc := 90) (pc' := 91) rfl rfl ?_
    refine jx_next (pc := 91) (pc' := 92) rfl rfl ?_
    refine jx_next (pc := 92) (pc' := 93) rfl rfl ?_
    refine jx_next (pc := 93) (pc' := 94) rfl rfl ?_
    refine jx_next (pc := 94) (pc' := 95) rfl rfl ?_
    obtain ⟨hg12, K⟩ := jguard K
    refine jx_iald2 (pc := 95) rfl jko_111 jno_111 hg12 ?_
    obtain ⟨hg13, K⟩ := jguard K
    refine jx_iast2 (pc := 96) rfl jko_148 jno_148 hg13 ?_
    refine jx_next (pc := 97) (pc' := 98) rfl rfl ?_
    refine jx_getr2 (pc := 98) rfl jko_110 jr_12_50 ?_
    refine jx_next (pc := 101) (pc' := 102) rfl rfl ?_
    refine jx_next (pc := 102) (pc' := 103) rfl rfl ?_
    refine jx_next (pc := 103) (pc' := 104) rfl rfl ?_
    refine jx_next (pc := 104) (pc' := 105) rfl rfl ?_
    refine jx_next (pc := 105) (pc' := 106) rfl rfl ?_
    refine jx_next (pc := 106) (pc' := 107) rfl rfl ?_
    refine jx_next (pc := 107) (pc' := 108) rfl rfl ?_
    refine jx_next (pc := 108) (pc' := 109) rfl rfl ?_
    refine jx_next (pc := 109) (pc' := 110) rfl rfl ?_
    refine jx_next (pc := 110) (pc' := 111) rfl rfl ?_
    refine jx_next (pc := 111) (pc' := 112) rfl rfl ?_
    refine jx_next (pc := 112) (pc' := 113) rfl rfl ?_
    refine jx_next (pc := 113) (pc' := 114) rfl rfl ?_
    refine jx_callv (pc := 114) (o := 110) (rest := [.int ((2 + (2 * v2)) + 1), .ref 148]) rfl ⟨by decide, by decide⟩ rfl jko_110 (Nat.le_of_ble_eq_true rfl) ?_
    obtain ⟨z14, hz_z14, K⟩ := Option.bind_eq_some_iff.mp K
    refine kM_twoAt  (by omega) hz_z14 ?_
    obtain ⟨hg15, K⟩ := jguard K
    refine jx_iast2 (pc := 117) rfl jko_148 jno_148 hg15 ?_
    refine jx_inc (pc := 118) (x := v2) (p2 := [some (.ref 110), none, some (.int (v2 + 1))]) rfl rfl (jlt rfl) rfl ?_
    refine jx_next (pc := 121) (pc' := 69) rfl rfl ?_
    obtain rfl := Option.some.inj K
    refine jx_le (pl' := [some (.ref 110), none, some (.int (v2 + 1))]) (jle_v (jle_n (jle_v jle_nil))) ?_
    exact HL (v2 + 1, jhI (jhI h 148 (2 + (2 * v2)).toNatClampNeg (h.1 111 (4 + (3 * v2)).toNatClampNeg)) 148 ((2 + (2 * v2)) + 1).toNatClampNeg z14) rfl
  · replace K := (if_neg hc11).symm.trans K
    obtain rfl := Option.some.inj K
    refine jx_le (pl' := [some (.ref 110), none, none]) (jle_v (jle_n (jle_n jle_nil))) ?_
    exact HE0 _ rfl
theorem kM_on_l69_w {X : jX} {dd : Nat} {p d : Nat} {q : Nat → Nat} {Q : Option Value → jS → Prop}   (hd : 3 ≤ (dd + 1)) {s : Int32 × jH} {x : jH} (K : jlim (fM_on_l69 ) s = some x) (HE : jEx X (dd + 1) jc_317 124 [some (.ref 110), none, none] [] (176, jRf p d q, x) Q) :
    jEx X (dd + 1) jc_317 69 [some (.ref 110), none, some (.int s.1)] [] (176, jRf p d q, s.2) Q := by
  refine jlim_ok (G := fun s : Int32 × jH => jEx X (dd + 1) jc_317 69 [some (.ref 110), none, some (.int s.1)] [] (176, jRf p d q, s.2) Q) (GX := fun x : jH => jEx X (dd + 1) jc_317 124 [some (.ref 110), none, none] [] (176, jRf p d q, x) Q) (fun s z hz HL HE => ?_) K HE
  exact kM_on_l69_b  hd hz HL HE
noncomputable def fM_on_j66 (s0 : Nat) (s1 : Int32) (s2 : Int32) (h : jH) : Option (Int32 × jH) :=
  (if jin s1 (jsh s0).2 then
  (Option.bind (jlim (fM_on_l69 ) (0, jhI h s0 s1.toNatClampNeg s2)) (fun (x16 : jH) =>
  some (1, jhI x16 110 56 0)))
  else none)
theorem kM_on_j66 {X : jX} {dd : Nat} {p d : Nat} {q : Nat → Nat} {Q : Option Value → jS → Prop} {s0 : Nat} {s1 : Int32} {s2 : Int32} {h : jH} (hs0 : jcl 176 s0 = 20) (hd : 3 ≤ (dd + 1)) {z : Int32 × jH} (K : fM_on_j66 s0 s1 s2 h = some z) (HQ : Q (some (.int z.1)) (176, jRf p d q, z.2)) :
    jEx X (dd + 1) jc_317 66 [some (.ref 110), none, none] [.int s2, .int s1, .ref s0] (176, jRf p d q, h) Q := by
  unfold fM_on_j66 at K
  obtain ⟨hg9, K⟩ := jguard K
  refine jx_iast2 (pc := 66) rfl hs0 rfl hg9 ?_
  refine jx_next (pc := 67) (pc' := 68) rfl rfl ?_
  refine jx_stin (pc := 68) (p2 := [some (.ref 110), none, some (.int 0)]) rfl (jlt rfl) rfl ?_
  refine jx_le (pl' := [some (.ref 110), none, some (.int 0)]) (jle_v (jle_n (jle_v jle_nil))) ?_
  obtain ⟨x16, hz_x16, K⟩ := Option.bind_eq_some_iff.mp K
  refine kM_on_l69_w  hd hz_x16 ?_
  refine jx_next (pc := 124) (pc' := 125) rfl rfl ?_
  refine jx_next (pc := 125) (pc' := 126) rfl rfl ?_
  refine jx_puti (pc := 126) rfl jko_110 ?_
  refine jx_next (pc := 129) (pc' := 130) rfl rfl ?_
  obtain rfl := Option.some.inj K
  exact jx_zret (pc := 130) rfl (Or.inr rfl) HQ
/-- AndGuestModel.on()Z -/
noncomputable def fM_on  (h : jH) : Option (Int32 × jH) :=
  (Option.bind (fM_isImage (h.1 110 1) (jhI h 110 1 0)) (fun (z1 : Int32) =>
  (if z1 = 0 then
  (if jin 5 6 then
  (if jin 5 6 then
  some (0, jhI (jhI h 110 1 0) 112 (5 : Int32).toNatClampNeg (((jhI h 110 1 0).1 112 (5 : Int32).toNatClampNeg) + 1))
  else none)
  else none)
  else
  (Option.bind (fM_twoAt 0 (jhI h 110 1 0)) (fun (z5 : Int32) =>
  (if jin 0 18 then
  (Option.bind (fM_twoAt 2 (jhI (jhI h 110 1 0) 148 (0 : Int32).toNatClampNeg z5)) (fun (z7 : Int32) =>
  (if z7 = 65535 then
  fM_on_j66  148 1 (-1) (jhI (jhI h 110 1 0) 148 (0 : Int32).toNatClampNeg z5)
  else
  (Option.bind (fM_twoAt 2 (jhI (jhI h 110 1 0) 148 (0 : Int32).toNatClampNeg z5)) (fun (z17 : Int32) =>
  fM_on_j66  148 1 z17 (jhI (jhI h 110 1 0) 148 (0 : Int32).toNatClampNeg z5))))))
  else none))))))
theorem kM_on {X : jX} {dd : Nat} {p d : Nat} {q : Nat → Nat} {Q : Option Value → jS → Prop}  {h : jH}  (hd : 3 ≤ dd) {z : Int32 × jH} (K : fM_on  h = some z) (HQ : Q (some (.int z.1)) (176, jRf p d q, z.2)) :
    jCa X dd 317 [.ref 110] (176, jRf p d q, h) Q := by
  obtain ⟨dd, rfl⟩ : ∃ d9, dd = d9 + 1 := ⟨dd - 1, by omega⟩
  unfold fM_on at K
  refine jCa_of (es := jc_317) (pl := [some (.ref 110), none, none]) (M := jm_317) rfl rfl rfl rfl ?_
  refine jx_next (pc := 0) (pc' := 1) rfl rfl ?_
  refine jx_geti (pc := 1) rfl jko_110 ?_
  refine jx_stin (pc := 4) (p2 := [some (.ref 110), some (.int (h.1 110 1)), none]) rfl (jlt rfl) rfl ?_
  refine jx_next (pc := 5) (pc' := 6) rfl rfl ?_
  refine jx_next (pc := 6) (pc' := 7) rfl rfl ?_
  refine jx_puti (pc := 7) rfl jko_110 ?_
  refine jx_next (pc := 10) (pc' := 11) rfl rfl ?_
  refine jx_next (pc := 11) (pc' := 12) rfl rfl ?_
  refine jx_callv (pc := 12) (o := 110) (rest := []) rfl ⟨by decide, by decide⟩ rfl jko_110 (Nat.le_of_ble_eq_true rfl) ?_
  obtain ⟨z1, hz_z1, K⟩ := Option.bind_eq_some_iff.mp K
  refine kM_isImage  (by omega) hz_z1 ?_
  refine jx_ifne (pc := 15) rfl (fun hc2 => ?_) (fun hc2 => ?_)
  · replace K := (if_pos hc2).symm.trans K
    refine jx_next (pc := 18) (pc' := 19) rfl rfl ?_
    refine jx_getr2 (pc := 19) rfl jko_110 jr_12_9 ?_
    refine jx_next (pc := 22) (pc' := 23) rfl rfl ?_
    refine jx_next (pc := 23) (pc' := 24) rfl rfl ?_
    obtain ⟨hg3, K⟩ := jguard K
    refine jx_iald2 (pc := 24) rfl jko_112 jno_112 hg3 ?_
    refine jx_next (pc := 25) (pc' := 26) rfl rfl ?_
    refine jx_next (pc := 26) (pc' := 27) rfl rfl ?_
    obtain ⟨hg4, K⟩ := jguard K
    refine jx_iast2 (pc := 27) rfl jko_112 jno_112 hg4 ?_
    refine jx_next (pc := 28) (pc' := 29) rfl rfl ?_
    obtain rfl := Option.some.inj K
    exact jx_zret (pc := 29) rfl (Or.inl rfl) HQ
  · replace K := (if_neg hc2).symm.trans K
    refine jx_next (pc := 30) (pc' := 31) rfl rfl ?_
    refine jx_getr2 (pc := 31) rfl jko_110 jr_12_50 ?_
    refine jx_next (pc := 34) (pc' := 35) rfl rfl ?_
    refine jx_next (pc := 35) (pc' := 36) rfl rfl ?_
    refine jx_next (pc := 36) (pc' := 37) rfl rfl ?_
    refine jx_callv (pc := 37) (o := 110) (rest := [.int 0, .ref 148]) rfl ⟨by decide, by decide⟩ rfl jko_110 (Nat.le_of_ble_eq_true rfl) ?_
    obtain ⟨z5, hz_z5, K⟩ := Option.bind_eq_some_iff.mp K
    refine kM_twoAt  (by omega) hz_z5 ?_
    obtain ⟨hg6, K⟩ := jguard K
    refine jx_iast2 (pc := 40) rfl jko_148 jno_148 hg6 ?_
    refine jx_next (pc := 41) (pc' := 42) rfl rfl ?_
    refine jx_getr2 (pc := 42) rfl jko_110 jr_12_50 ?_
    refine jx_next (pc := 45) (pc' := 46) rfl rfl ?_
    refine jx_next (pc := 46) (pc' := 47) rfl rfl ?_
    refine jx_next (pc := 47) (pc' := 48) rfl rfl ?_
    refine jx_callv (pc := 48) (o := 110) (rest := [.int 1, .ref 148]) rfl ⟨by decide, by decide⟩ rfl jko_110 (Nat.le_of_ble_eq_true rfl) ?_
    obtain ⟨z7, hz_z7, K⟩ := Option.bind_eq_some_iff.mp K
    refine kM_twoAt  (by omega) hz_z7 ?_
    refine jx_next (pc := 51) (pc' := 54) rfl rfl ?_
    refine jx_icne (pc := 54) rfl (fun hc8 => ?_) (fun hc8 => ?_)
    · replace K := (if_pos hc8).symm.trans K
      refine jx_next (pc := 57) (pc' := 58) rfl rfl ?_
      refine jx_next (pc := 58) (pc' := 66) rfl rfl ?_
      refine jx_le (pl' := [some (.ref 110), none, none]) (jle_v (jle_n (jle_n jle_nil))) ?_
      exact kM_on_j66 jko_148 hd K HQ
    · replace K := (if_neg hc8).symm.trans K
      refine jx_next (pc := 61) (pc' := 62) rfl rfl ?_
      refine jx_next (pc := 62) (pc' := 63) rfl rfl ?_
      refine jx_callv (pc := 63) (o := 110) (rest := [.int 1, .ref 148]) rfl ⟨by decide, by decide⟩ rfl jko_110 (Nat.le_of_ble_eq_true rfl) ?_
      obtain ⟨z17, hz_z17, K⟩ := Option.bind_eq_some_iff.mp K
      refine kM_twoAt  (by omega) hz_z17 ?_
      refine jx_le (pl' := [some (.ref 110), none, none]) (jle_v (jle_n (jle_n jle_nil))) ?_
      exact kM_on_j66 jko_148 hd K HQ
/-- AndGuestModel.status(I)I -/
noncomputable def fM_status (v1 : Int32) (h : jH) : Option Int32 :=
  (if (fM_isIn v1.toInt64 0 5) = 0 then
  some ((-1) : Int32)
  else
  (if jin v1 6 then
  some (h.1 112 v1.toNatClampNeg : Int32)
  else none))
theorem kM_status {X : jX} {dd : Nat} {p d : Nat} {q : Nat → Nat} {Q : Option Value → jS → Prop} {v1 : Int32} {h : jH}  (hd : 1 ≤ dd) {z : Int32} (K : fM_status v1 h = some z) (HQ : Q (some (.int z)) (176, jRf p d q, h)) :
    jCa X dd 321 [.ref 110, .int v1] (176, jRf p d q, h) Q := by
  obtain ⟨dd, rfl⟩ : ∃ d9, dd = d9 + 1 := ⟨dd - 1, by omega⟩
  unfold fM_status at K
  refine jCa_of (es := jc_321) (pl := [some (.ref 110), some (.int v1)]) (M := jm_321) rfl rfl rfl rfl ?_
  refine jx_next (pc := 0) (pc' := 1) rfl rfl ?_
  refine jx_next (pc := 1) (pc' := 2) rfl rfl ?_
  refine jx_next (pc := 2) (pc' := 3) rfl rfl ?_
  refine jx_next (pc := 3) (pc' := 6) rfl rfl ?_
  refine jx_calls (pc := 6) rfl (Nat.le_of_ble_eq_true rfl) (Nat.le_of_ble_eq_true rfl) ?_
  refine kM_isIn  (by omega) rfl ?_
  refine jx_ifeq (pc := 9) rfl (fun hc2 => ?_) (fun hc2 => ?_)
  · replace K := (if_pos hc2).symm.trans K
    refine jx_next (pc := 21) (pc' := 22) rfl rfl ?_
    obtain rfl := Option.some.inj K
    exact jx_iret (pc := 22) rfl HQ
  · replace K := (if_neg hc2).symm.trans K
    refine jx_next (pc := 12) (pc' := 13) rfl rfl ?_
    refine jx_getr2 (pc := 13) rfl jko_110 jr_12_9 ?_
    refine jx_next (pc := 16) (pc' := 17) rfl rfl ?_
    obtain ⟨hg3, K⟩ := jguard K
    refine jx_iald2 (pc := 17) rfl jko_112 jno_112 hg3 ?_
    refine jx_next (pc := 18) (pc' := 22) rfl rfl ?_
    obtain rfl := Option.some.inj K
    exact jx_iret (pc := 22) rfl HQ
