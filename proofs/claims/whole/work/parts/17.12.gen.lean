noncomputable def fM_qJoins_j161 (R : jR) (s0 : Nat) (s1 : Int64) (h : jH) : Option jH :=
  (Option.bind (fM_qPuts R s0 s1 h) (fun (z9 : jH) =>
  some z9))
theorem kM_qJoins_j161 {X : jX} {d : Nat} {R : jR} {Q : Option Value → jS → Prop} {s0 : Nat} {s1 : Int64} {h : jH} (hT : jTy R) (hs0 : jcl 176 s0 = 12) (hd : 1 ≤ (d + 1)) {z : jH} (K : fM_qJoins_j161 R s0 s1 h = some z) (HQ : Q none (176, R, z)) :
    jEx X (d + 1) jc_251 161 [none, none, none, none, none, none] [.long s1, .ref s0] (176, R, h) Q := by
  unfold fM_qJoins_j161 at K
  refine jx_callv (pc := 161) (o := s0) (rest := []) rfl ⟨by decide, by decide⟩ rfl hs0 (Nat.le_of_ble_eq_true rfl) ?_
  obtain ⟨z9, hz_z9, K⟩ := Option.bind_eq_some_iff.mp K
  refine kM_qPuts hT hs0 (by omega) hz_z9 ?_
  refine jx_next (pc := 164) (pc' := 273) rfl rfl ?_
  obtain rfl := Option.some.inj K
  exact jx_ret (pc := 273) rfl rfl HQ
noncomputable def fM_qJoins_j181 (R : jR) (s0 : Nat) (s1 : Int64) (h : jH) : Option jH :=
  (Option.bind (fM_qPuts R s0 s1 h) (fun (z11 : jH) =>
  some z11))
theorem kM_qJoins_j181 {X : jX} {d : Nat} {R : jR} {Q : Option Value → jS → Prop} {s0 : Nat} {s1 : Int64} {h : jH} (hT : jTy R) (hs0 : jcl 176 s0 = 12) (hd : 1 ≤ (d + 1)) {z : jH} (K : fM_qJoins_j181 R s0 s1 h = some z) (HQ : Q none (176, R, z)) :
    jEx X (d + 1) jc_251 181 [none, none, none, none, none, none] [.long s1, .ref s0] (176, R, h) Q := by
  unfold fM_qJoins_j181 at K
  refine jx_callv (pc := 181) (o := s0) (rest := []) rfl ⟨by decide, by decide⟩ rfl hs0 (Nat.le_of_ble_eq_true rfl) ?_
  obtain ⟨z11, hz_z11, K⟩ := Option.bind_eq_some_iff.mp K
  refine kM_qPuts hT hs0 (by omega) hz_z11 ?_
  refine jx_next (pc := 184) (pc' := 273) rfl rfl ?_
  obtain rfl := Option.some.inj K
  exact jx_ret (pc := 273) rfl rfl HQ
noncomputable def fM_qJoins_j200 (R : jR) (s0 : Nat) (s1 : Int64) (h : jH) : Option jH :=
  (Option.bind (fM_qPuts R s0 s1 h) (fun (z13 : jH) =>
  some z13))
theorem kM_qJoins_j200 {X : jX} {d : Nat} {R : jR} {Q : Option Value → jS → Prop} {s0 : Nat} {s1 : Int64} {h : jH} (hT : jTy R) (hs0 : jcl 176 s0 = 12) (hd : 1 ≤ (d + 1)) {z : jH} (K : fM_qJoins_j200 R s0 s1 h = some z) (HQ : Q none (176, R, z)) :
    jEx X (d + 1) jc_251 200 [none, none, none, none, none, none] [.long s1, .ref s0] (176, R, h) Q := by
  unfold fM_qJoins_j200 at K
  refine jx_callv (pc := 200) (o := s0) (rest := []) rfl ⟨by decide, by decide⟩ rfl hs0 (Nat.le_of_ble_eq_true rfl) ?_
  obtain ⟨z13, hz_z13, K⟩ := Option.bind_eq_some_iff.mp K
  refine kM_qPuts hT hs0 (by omega) hz_z13 ?_
  refine jx_next (pc := 203) (pc' := 273) rfl rfl ?_
  obtain rfl := Option.some.inj K
  exact jx_ret (pc := 273) rfl rfl HQ
noncomputable def fM_qJoins_j219 (R : jR) (s0 : Nat) (s1 : Int64) (h : jH) : Option jH :=
  (Option.bind (fM_qPuts R s0 s1 h) (fun (z15 : jH) =>
  some z15))
theorem kM_qJoins_j219 {X : jX} {d : Nat} {R : jR} {Q : Option Value → jS → Prop} {s0 : Nat} {s1 : Int64} {h : jH} (hT : jTy R) (hs0 : jcl 176 s0 = 12) (hd : 1 ≤ (d + 1)) {z : jH} (K : fM_qJoins_j219 R s0 s1 h = some z) (HQ : Q none (176, R, z)) :
    jEx X (d + 1) jc_251 219 [none, none, none, none, none, none] [.long s1, .ref s0] (176, R, h) Q := by
  unfold fM_qJoins_j219 at K
  refine jx_callv (pc := 219) (o := s0) (rest := []) rfl ⟨by decide, by decide⟩ rfl hs0 (Nat.le_of_ble_eq_true rfl) ?_
  obtain ⟨z15, hz_z15, K⟩ := Option.bind_eq_some_iff.mp K
  refine kM_qPuts hT hs0 (by omega) hz_z15 ?_
  refine jx_next (pc := 222) (pc' := 273) rfl rfl ?_
  obtain rfl := Option.some.inj K
  exact jx_ret (pc := 273) rfl rfl HQ
noncomputable def fM_qJoins_j238 (R : jR) (s0 : Nat) (s1 : Int64) (h : jH) : Option jH :=
  (Option.bind (fM_qPuts R s0 s1 h) (fun (z17 : jH) =>
  some z17))
theorem kM_qJoins_j238 {X : jX} {d : Nat} {R : jR} {Q : Option Value → jS → Prop} {s0 : Nat} {s1 : Int64} {h : jH} (hT : jTy R) (hs0 : jcl 176 s0 = 12) (hd : 1 ≤ (d + 1)) {z : jH} (K : fM_qJoins_j238 R s0 s1 h = some z) (HQ : Q none (176, R, z)) :
    jEx X (d + 1) jc_251 238 [none, none, none, none, none, none] [.long s1, .ref s0] (176, R, h) Q := by
  unfold fM_qJoins_j238 at K
  refine jx_callv (pc := 238) (o := s0) (rest := []) rfl ⟨by decide, by decide⟩ rfl hs0 (Nat.le_of_ble_eq_true rfl) ?_
  obtain ⟨z17, hz_z17, K⟩ := Option.bind_eq_some_iff.mp K
  refine kM_qPuts hT hs0 (by omega) hz_z17 ?_
  refine jx_next (pc := 241) (pc' := 273) rfl rfl ?_
  obtain rfl := Option.some.inj K
  exact jx_ret (pc := 273) rfl rfl HQ
noncomputable def fM_qJoins_j270 (R : jR) (s0 : Nat) (s1 : Int64) (h : jH) : Option jH :=
  (Option.bind (fM_qPuts R s0 s1 h) (fun (z20 : jH) =>
  some z20))
theorem kM_qJoins_j270 {X : jX} {d : Nat} {R : jR} {Q : Option Value → jS → Prop} {s0 : Nat} {s1 : Int64} {h : jH} (hT : jTy R) (hs0 : jcl 176 s0 = 12) (hd : 1 ≤ (d + 1)) {z : jH} (K : fM_qJoins_j270 R s0 s1 h = some z) (HQ : Q none (176, R, z)) :
    jEx X (d + 1) jc_251 270 [none, none, none, none, none, none] [.long s1, .ref s0] (176, R, h) Q := by
  unfold fM_qJoins_j270 at K
  refine jx_callv (pc := 270) (o := s0) (rest := []) rfl ⟨by decide, by decide⟩ rfl hs0 (Nat.le_of_ble_eq_true rfl) ?_
  obtain ⟨z20, hz_z20, K⟩ := Option.bind_eq_some_iff.mp K
  refine kM_qPuts hT hs0 (by omega) hz_z20 ?_
  obtain rfl := Option.some.inj K
  exact jx_ret (pc := 273) rfl rfl HQ
/-- AndGuestModel.qJoins(I)V -/
noncomputable def fM_qJoins (R : jR) (o : Nat) (v1 : Int32) (h : jH) : Option jH :=
  (if jin ((h.1 o 86) - 1) (jsh (R o 85)).2 then
  (if jin ((h.1 o 86) - 2) (jsh (R o 85)).2 then
  (if v1 = 1 then
  (Option.bind (fM_qPuts R o (fM_qClip ((h.2 (R o 85) ((h.1 o 86) - 2).toNatClampNeg) + (h.2 (R o 85) ((h.1 o 86) - 1).toNatClampNeg))) (jhI h o 86 ((h.1 o 86) - 2))) (fun (z3 : jH) =>
  some z3))
  else
  (if v1 = 2 then
  (Option.bind (fM_qPuts R o (fM_qClip ((h.2 (R o 85) ((h.1 o 86) - 2).toNatClampNeg) - (h.2 (R o 85) ((h.1 o 86) - 1).toNatClampNeg))) (jhI h o 86 ((h.1 o 86) - 2))) (fun (z4 : jH) =>
  some z4))
  else
  (if v1 = 3 then
  (Option.bind (fM_qPuts R o (fM_qClip ((h.2 (R o 85) ((h.1 o 86) - 2).toNatClampNeg) * (h.2 (R o 85) ((h.1 o 86) - 1).toNatClampNeg))) (jhI h o 86 ((h.1 o 86) - 2))) (fun (z5 : jH) =>
  some z5))
  else
  (if v1 = 4 then
  (Option.bind (fM_qFloor (h.2 (R o 85) ((h.1 o 86) - 2).toNatClampNeg) (h.2 (R o 85) ((h.1 o 86) - 1).toNatClampNeg)) (fun (z6 : Int64) =>
  (Option.bind (fM_qPuts R o z6 (jhI h o 86 ((h.1 o 86) - 2))) (fun (z7 : jH) =>
  some z7))))
  else
  (if v1 = 5 then
  (if (h.2 (R o 85) ((h.1 o 86) - 2).toNatClampNeg) < (h.2 (R o 85) ((h.1 o 86) - 1).toNatClampNeg) then
  fM_qJoins_j161 R o (h.2 (R o 85) ((h.1 o 86) - 2).toNatClampNeg) (jhI h o 86 ((h.1 o 86) - 2))
  else
  fM_qJoins_j161 R o (h.2 (R o 85) ((h.1 o 86) - 1).toNatClampNeg) (jhI h o 86 ((h.1 o 86) - 2)))
  else
  (if v1 = 6 then
  (if (h.2 (R o 85) ((h.1 o 86) - 1).toNatClampNeg) < (h.2 (R o 85) ((h.1 o 86) - 2).toNatClampNeg) then
  fM_qJoins_j181 R o (h.2 (R o 85) ((h.1 o 86) - 2).toNatClampNeg) (jhI h o 86 ((h.1 o 86) - 2))
  else
  fM_qJoins_j181 R o (h.2 (R o 85) ((h.1 o 86) - 1).toNatClampNeg) (jhI h o 86 ((h.1 o 86) - 2)))
  else
  (if v1 = 7 then
  (if (h.2 (R o 85) ((h.1 o 86) - 2).toNatClampNeg) < (h.2 (R o 85) ((h.1 o 86) - 1).toNatClampNeg) then
  fM_qJoins_j200 R o 1 (jhI h o 86 ((h.1 o 86) - 2))
  else
  fM_qJoins_j200 R o 0 (jhI h o 86 ((h.1 o 86) - 2)))
  else
  (if v1 = 8 then
  (if (h.2 (R o 85) ((h.1 o 86) - 1).toNatClampNeg) < (h.2 (R o 85) ((h.1 o 86) - 2).toNatClampNeg) then
  fM_qJoins_j219 R o 1 (jhI h o 86 ((h.1 o 86) - 2))
  else
  fM_qJoins_j219 R o 0 (jhI h o 86 ((h.1 o 86) - 2)))
  else
  (if v1 = 9 then
  (if (h.2 (R o 85) ((h.1 o 86) - 2).toNatClampNeg) = (h.2 (R o 85) ((h.1 o 86) - 1).toNatClampNeg) then
  fM_qJoins_j238 R o 1 (jhI h o 86 ((h.1 o 86) - 2))
  else
  fM_qJoins_j238 R o 0 (jhI h o 86 ((h.1 o 86) - 2)))
  else
  (if v1 = 10 then
  (Option.bind (fM_qPuts R o ((h.2 (R o 85) ((h.1 o 86) - 2).toNatClampNeg) * (h.2 (R o 85) ((h.1 o 86) - 1).toNatClampNeg)) (jhI h o 86 ((h.1 o 86) - 2))) (fun (z18 : jH) =>
  some z18))
  else
  (if 0 < ((h.2 (R o 85) ((h.1 o 86) - 2).toNatClampNeg) + (h.2 (R o 85) ((h.1 o 86) - 1).toNatClampNeg)) then
  fM_qJoins_j270 R o 1 (jhI h o 86 ((h.1 o 86) - 2))
  else
  fM_qJoins_j270 R o 0 (jhI h o 86 ((h.1 o 86) - 2)))))))))))))
  else none)
  else none)
theorem kM_qJoins {X : jX} {d : Nat} {R : jR} {Q : Option Value → jS → Prop} {o : Nat} {v1 : Int32} {h : jH} (hT : jTy R) (ho : jcl 176 o = 12) (hd : 1 ≤ d) {z : jH} (K : fM_qJoins R o v1 h = some z) (HQ : Q none (176, R, z)) :
    jCa X d 251 [.ref o, .int v1] (176, R, h) Q := by
  obtain ⟨d, rfl⟩ : ∃ d9, d = d9 + 1 := ⟨d - 1, by omega⟩
  unfold fM_qJoins at K
  refine jCa_of (es := jc_251) (pl := [some (.ref o), some (.int v1), none, none, none, none]) (M := jm_251) rfl rfl rfl rfl ?_
  refine jx_next (pc := 0) (pc' := 1) rfl rfl ?_
  refine jx_getr (pc := 1) rfl ho ?_
  refine jx_next (pc := 4) (pc' := 5) rfl rfl ?_
  refine jx_geti (pc := 5) rfl ho ?_
  refine jx_next (pc := 8) (pc' := 9) rfl rfl ?_
  refine jx_next (pc := 9) (pc' := 10) rfl rfl ?_
  obtain ⟨hg1, K⟩ := jguard K
  refine jx_lald (pc := 10) rfl (jtR hT ho (k := 85) (c := 21) rfl) hg1 ?_
  refine jx_stln (pc := 11) (p2 := [some (.ref o), some (.int v1), some (.long (h.2 (R o 85) ((h.1 o 86) - 1).toNatClampNeg)), none, none, none]) rfl (jlt rfl) rfl ?_
  refine jx_next (pc := 12) (pc' := 13) rfl rfl ?_
  refine jx_getr (pc := 13) rfl ho ?_
  refine jx_next (pc := 16) (pc' := 17) rfl rfl ?_
  refine jx_geti (pc := 17) rfl ho ?_
  refine jx_next (pc := 20) (pc' := 21) rfl rfl ?_
  refine jx_next (pc := 21) (pc' := 22) rfl rfl ?_
  obtain ⟨hg2, K⟩ := jguard K
  refine jx_lald (pc := 22) rfl (jtR hT ho (k := 85) (c := 21) rfl) hg2 ?_
  refine jx_stl (pc := 23) (p2 := [some (.ref o), some (.int v1), some (.long (h.2 (R o 85) ((h.1 o 86) - 1).toNatClampNeg)), none, some (.long (h.2 (R o 85) ((h.1 o 86) - 2).toNatClampNeg)), none]) rfl (jlt rfl) rfl ?_
  refine jx_next (pc := 25) (pc' := 26) rfl rfl ?_
  refine jx_next (pc := 26) (pc' := 27) rfl rfl ?_
  refine jx_geti (pc := 27) rfl ho ?_
  refine jx_next (pc := 30) (pc' := 31) rfl rfl ?_
  refine jx_next (pc := 31) (pc' := 32) rfl rfl ?_
  refine jx_puti (pc := 32) rfl ho ?_
  refine jx_next (pc := 35) (pc' := 36) rfl rfl ?_
  refine jx_tsw (pc := 36) rfl ?_
  refine jx_sw1 (fun hc30 => ?_) (fun hc30 => ?_)
  · replace K := (if_pos hc30).symm.trans K
    refine jx_next (pc := 92) (pc' := 93) rfl rfl ?_
    refine jx_next (pc := 93) (pc' := 95) rfl rfl ?_
    refine jx_next (pc := 95) (pc' := 96) rfl rfl ?_
    refine jx_next (pc := 96) (pc' := 97) rfl rfl ?_
    refine jx_calls (pc := 97) rfl (Nat.le_of_ble_eq_true rfl) (Nat.le_of_ble_eq_true rfl) ?_
    refine kM_qClip  (by omega) rfl ?_
    refine jx_callv (pc := 100) (o := o) (rest := []) rfl ⟨by decide, by decide⟩ rfl ho (Nat.le_of_ble_eq_true rfl) ?_
    obtain ⟨z3, hz_z3, K⟩ := Option.bind_eq_some_iff.mp K
    refine kM_qPuts hT ho (by omega) hz_z3 ?_
    refine jx_next (pc := 103) (pc' := 273) rfl rfl ?_
    obtain rfl := Option.some.inj K
    exact jx_ret (pc := 273) rfl rfl HQ
  · replace K := (if_neg hc30).symm.trans K
    refine jx_sw1 (fun hc29 => ?_) (fun hc29 => ?_)
    · replace K := (if_pos hc29).symm.trans K
      refine jx_next (pc := 106) (pc' := 107) rfl rfl ?_
      refine jx_next (pc := 107) (pc' := 109) rfl rfl ?_
      refine jx_next (pc := 109) (pc' := 110) rfl rfl ?_
      refine jx_next (pc := 110) (pc' := 111) rfl rfl ?_
      refine jx_calls (pc := 111) rfl (Nat.le_of_ble_eq_true rfl) (Nat.le_of_ble_eq_true rfl) ?_
      refine kM_qClip  (by omega) rfl ?_
      refine jx_callv (pc := 114) (o := o) (rest := []) rfl ⟨by decide, by decide⟩ rfl ho (Nat.le_of_ble_eq_true rfl) ?_
      obtain ⟨z4, hz_z4, K⟩ := Option.bind_eq_some_iff.mp K
      refine kM_qPuts hT ho (by omega) hz_z4 ?_
      refine jx_next (pc := 117) (pc' := 273) rfl rfl ?_
      obtain rfl := Option.some.inj K
      exact jx_ret (pc := 273) rfl rfl HQ
    · replace K := (if_neg hc29).symm.trans K
      refine jx_sw1 (fun hc28 => ?_) (fun hc28 => ?_)
      · replace K := (if_pos hc28).symm.trans K
        refine jx_next (pc := 120) (pc' := 121) rfl rfl ?_
        refine jx_next (pc := 121) (pc' := 123) rfl rfl ?_
        refine jx_next (pc := 123) (pc' := 124) rfl rfl ?_
        refine jx_next (pc := 124) (pc' := 125) rfl rfl ?_
        refine jx_calls (pc := 125) rfl (Nat.le_of_ble_eq_true rfl) (Nat.le_of_ble_eq_true rfl) ?_
        refine kM_qClip  (by omega) rfl ?_
        refine jx_callv (pc := 128) (o := o) (rest := []) rfl ⟨by decide, by decide⟩ rfl ho (Nat.le_of_ble_eq_true rfl) ?_
        obtain ⟨z5, hz_z5, K⟩ := Option.bind_eq_some_iff.mp K
        refine kM_qPuts hT ho (by omega) hz_z5 ?_
        refine jx_next (pc := 131) (pc' := 273) rfl rfl ?_
        obtain rfl := Option.some.inj K
        exact jx_ret (pc := 273) rfl rfl HQ
      · replace K := (if_neg hc28).symm.trans K
        refine jx_sw1 (fun hc27 => ?_) (fun hc27 => ?_)
        · replace K := (if_pos hc27).symm.trans K
          refine jx_next (pc := 134) (pc' := 135) rfl rfl ?_
          refine jx_next (pc := 135) (pc' := 137) rfl rfl ?_
          refine jx_next (pc := 137) (pc' := 138) rfl rfl ?_
          refine jx_calls (pc := 138) rfl (Nat.le_of_ble_eq_true rfl) (Nat.le_of_ble_eq_true rfl) ?_
          obtain ⟨z6, hz_z6, K⟩ := Option.bind_eq_some_iff.mp K
          refine kM_qFloor  (by omega) hz_z6 ?_
          refine jx_callv (pc := 141) (o := o) (rest := []) rfl ⟨by decide, by decide⟩ rfl ho (Nat.le_of_ble_eq_true rfl) ?_
          obtain ⟨z7, hz_z7, K⟩ := Option.bind_eq_some_iff.mp K
          refine kM_qPuts hT ho (by omega) hz_z7 ?_
          refine jx_next (pc := 144) (pc' := 273) rfl rfl ?_
          obtain rfl := Option.some.inj K
          exact jx_ret (pc := 273) rfl rfl HQ
        · replace K := (if_neg hc27).symm.trans K
          refine jx_sw1 (fun hc26 => ?_) (fun hc26 => ?_)
          · replace K := (if_pos hc26).symm.trans K
            refine jx_next (pc := 147) (pc' := 148) rfl rfl ?_
            refine jx_next (pc := 148) (pc' := 150) rfl rfl ?_
            refine jx_next (pc := 150) (pc' := 151) rfl rfl ?_
            refine jx_lcge (pc := 151) rfl rfl (fun hc8 => ?_) (fun hc8 => ?_)
            · replace K := (if_pos hc8).symm.trans K
              refine jx_next (pc := 155) (pc' := 157) rfl rfl ?_
              refine jx_next (pc := 157) (pc' := 161) rfl rfl ?_
              refine jx_le (pl' := [none, none, none, none, none, none]) (jle_n (jle_n (jle_n (jle_n (jle_n (jle_n jle_nil)))))) ?_
              exact kM_qJoins_j161 hT ho hd K HQ
            · replace K := (if_neg hc8).symm.trans K
              refine jx_next (pc := 160) (pc' := 161) rfl rfl ?_
              refine jx_le (pl' := [none, none, none, none, none, none]) (jle_n (jle_n (jle_n (jle_n (jle_n (jle_n jle_nil)))))) ?_
              exact kM_qJoins_j161 hT ho hd K HQ
          · replace K := (if_neg hc26).symm.trans K
            refine jx_sw1 (fun hc25 => ?_) (fun hc25 => ?_)
            · replace K := (if_pos hc25).symm.trans K
              refine jx_next (pc := 167) (pc' := 168) rfl rfl ?_
              refine jx_next (pc := 168) (pc' := 170) rfl rfl ?_
              refine jx_next (pc := 170) (pc' := 171) rfl rfl ?_
              refine jx_lcle (pc := 171) rfl rfl (fun hc10 => ?_) (fun hc10 => ?_)
              · replace K := (if_pos hc10).symm.trans K
                refine jx_next (pc := 175) (pc' := 177) rfl rfl ?_
                refine jx_next (pc := 177) (pc' := 181) rfl rfl ?_
                refine jx_le (pl' := [none, none, none, none, none, none]) (jle_n (jle_n (jle_n (jle_n (jle_n (jle_n jle_nil)))))) ?_
                exact kM_qJoins_j181 hT ho hd K HQ
              · replace K := (if_neg hc10).symm.trans K
                refine jx_next (pc := 180) (pc' := 181) rfl rfl ?_
                refine jx_le (pl' := [none, none, none, none, none, none]) (jle_n (jle_n (jle_n (jle_n (jle_n (jle_n jle_nil)))))) ?_
                exact kM_qJoins_j181 hT ho hd K HQ
            · replace K := (if_neg hc25).symm.trans K
              refine jx_sw1 (fun hc24 => ?_) (fun hc24 => ?_)
              · replace K := (if_pos hc24).symm.trans K
                refine jx_next (pc := 187) (pc' := 188) rfl rfl ?_
                refine jx_next (pc := 188) (pc' := 190) rfl rfl ?_
                refine jx_next (pc := 190) (pc' := 191) rfl rfl ?_
                refine jx_lcge (pc := 191) rfl rfl (fun hc12 => ?_) (fun hc12 => ?_)
                · replace K := (if_pos hc12).symm.trans K
                  refine jx_next (pc := 195) (pc' := 196) rfl rfl ?_
                  refine jx_next (pc := 196) (pc' := 200) rfl rfl ?_
                  refine jx_le (pl' := [none, none, none, none, none, none]) (jle_n (jle_n (jle_n (jle_n (jle_n (jle_n jle_nil)))))) ?_
                  exact kM_qJoins_j200 hT ho hd K HQ
                · replace K := (if_neg hc12).symm.trans K
                  refine jx_next (pc := 199) (pc' := 200) rfl rfl ?_
                  refine jx_le (pl' := [none, none, none, none, none, none]) (jle_n (jle_n (jle_n (jle_n (jle_n (jle_n jle_nil)))))) ?_
                  exact kM_qJoins_j200 hT ho hd K HQ
              · replace K := (if_neg hc24).symm.trans K
                refine jx_sw1 (fun hc23 => ?_) (fun hc23 => ?_)
                · replace K := (if_pos hc23).symm.trans K
                  refine jx_next (pc := 206) (pc' := 207) rfl rfl ?_
                  refine jx_next (pc := 207) (pc' := 209) rfl rfl ?_
                  refine jx_next (pc := 209) (pc' := 210) rfl rfl ?_
                  refine jx_lcle (pc := 210) rfl rfl (fun hc14 => ?_) (fun hc14 => ?_)
                  · replace K := (if_pos hc14).symm.trans K
                    refine jx_next (pc := 214) (pc' := 215) rfl rfl ?_
                    refine jx_next (pc := 215) (pc' := 219) rfl rfl ?_
                    refine jx_le (pl' := [none, none, none, none, none, none]) (jle_n (jle_n (jle_n (jle_n (jle_n (jle_n jle_nil)))))) ?_
                    exact kM_qJoins_j219 hT ho hd K HQ
                  · replace K := (if_neg hc14).symm.trans K
                    refine jx_next (pc := 218) (pc' := 219) rfl rfl ?_
                    refine jx_le (pl' := [none, none, none, none, none, none]) (jle_n (jle_n (jle_n (jle_n (jle_n (jle_n jle_nil)))))) ?_
                    exact kM_qJoins_j219 hT ho hd K HQ
                · replace K := (if_neg hc23).symm.trans K
                  refine jx_sw1 (fun hc22 => ?_) (fun hc22 => ?_)
                  · replace K := (if_pos hc22).symm.trans K
                    refine jx_next (pc := 225) (pc' := 226) rfl rfl ?_
                    refine jx_next (pc := 226) (pc' := 228) rfl rfl ?_
                    refine jx_next (pc := 228) (pc' := 229) rfl rfl ?_
                    refine jx_lcne (pc := 229) rfl rfl (fun hc16 => ?_) (fun hc16 => ?_)
                    · replace K := (if_pos hc16).symm.trans K
                      refine jx_next (pc := 233) (pc' := 234) rfl rfl ?_
                      refine jx_next (pc := 234) (pc' := 238) rfl rfl ?_
                      refine jx_le (pl' := [none, none, none, none, none, none]) (jle_n (jle_n (jle_n (jle_n (jle_n (jle_n jle_nil)))))) ?_
                      exact kM_qJoins_j238 hT ho hd K HQ
                    · replace K := (if_neg hc16).symm.trans K
                      refine jx_next (pc := 237) (pc' := 238) rfl rfl ?_
                      refine jx_le (pl' := [none, none, none, none, none, none]) (jle_n (jle_n (jle_n (jle_n (jle_n (jle_n jle_nil)))))) ?_
                      exact kM_qJoins_j238 hT ho hd K HQ
                  · replace K := (if_neg hc22).symm.trans K
                    refine jx_sw1 (fun hc21 => ?_) (fun hc21 => ?_)
                    · replace K := (if_pos hc21).symm.trans K
                      refine jx_next (pc := 244) (pc' := 245) rfl rfl ?_
                      refine jx_next (pc := 245) (pc' := 247) rfl rfl ?_
                      refine jx_next (pc := 247) (pc' := 248) rfl rfl ?_
                      refine jx_next (pc := 248) (pc' := 249) rfl rfl ?_
                      refine jx_callv (pc := 249) (o := o) (rest := []) rfl ⟨by decide, by decide⟩ rfl ho (Nat.le_of_ble_eq_true rfl) ?_
                      obtain ⟨z18, hz_z18, K⟩ := Option.bind_eq_some_iff.mp K
                      refine kM_qPuts hT ho (by omega) hz_z18 ?_
                      refine jx_next (pc := 252) (pc' := 273) rfl rfl ?_
                      obtain rfl := Option.some.inj K
                      exact jx_ret (pc := 273) rfl rfl HQ
                    · replace K := (if_neg hc21).symm.trans K
                      refine jx_sw0 ?_
                      refine jx_next (pc := 255) (pc' := 256) rfl rfl ?_
                      refine jx_next (pc := 256) (pc' := 258) rfl rfl ?_
                      refine jx_next (pc := 258) (pc' := 259) rfl rfl ?_
                      refine jx_next (pc := 259) (pc' := 260) rfl rfl ?_
                      refine jx_next (pc := 260) (pc' := 261) rfl rfl ?_
                      refine jx_lcle (pc := 261) rfl rfl (fun hc19 => ?_) (fun hc19 => ?_)
                      · replace K := (if_pos hc19).symm.trans K
                        refine jx_next (pc := 265) (pc' := 266) rfl rfl ?_
                        refine jx_next (pc := 266) (pc' := 270) rfl rfl ?_
                        refine jx_le (pl' := [none, none, none, none, none, none]) (jle_n (jle_n (jle_n (jle_n (jle_n (jle_n jle_nil)))))) ?_
                        exact kM_qJoins_j270 hT ho hd K HQ
                      · replace K := (if_neg hc19).symm.trans K
                        refine jx_next (pc := 269) (pc' := 270) rfl rfl ?_
                        refine jx_le (pl' := [none, none, none, none, none, none]) (jle_n (jle_n (jle_n (jle_n (jle_n (jle_n jle_nil)))))) ?_
                        exact kM_qJoins_j270 hT ho hd K HQ
noncomputable def fM_lateBy_l29_j97 (R : jR) (o : Nat) (v1 : Int32) (v2 : Int32) (h : jH) : Option ((Int32 × jH) ⊕ (jH)) :=
  some (.inl (v2 + 1, h))
theorem kM_lateBy_l29_j97 {X : jX} {d : Nat} {R : jR} {Q : Option Value → jS → Prop} {o : Nat} {v1 : Int32} {v2 : Int32} {h : jH} (hT : jTy R) (ho : jcl 176 o = 12) (hd : 3 ≤ (d + 1)) {z : (Int32 × jH) ⊕ (jH)} (K : fM_lateBy_l29_j97 R o v1 v2 h = some z) (HL : ∀ s : Int32 × jH, z = .inl s → jEx X (d + 1) jc_247 29 [some (.ref o), some (.int v1), some (.int s.1), none] [] (176, R, s.2) Q) (HE0 : ∀ x : jH, z = .inr x → jEx X (d + 1) jc_247 103 [some (.ref o), none, none, none] [] (176, R, x) Q) :
    jEx X (d + 1) jc_247 97 [some (.ref o), some (.int v1), some (.int v2), none] [] (176, R, h) Q := by
  unfold fM_lateBy_l29_j97 at K
  refine jx_inc (pc := 97) (x := v2) (p2 := [some (.ref o), some (.int v1), some (.int (v2 + 1)), none]) rfl rfl (jlt rfl) rfl ?_
  refine jx_next (pc := 100) (pc' := 29) rfl rfl ?_
  obtain rfl := Option.some.inj K
  refine jx_le (pl' := [some (.ref o), some (.int v1), some (.int (v2 + 1)), none]) (jle_v (jle_v (jle_v (jle_n jle_nil)))) ?_
  exact HL _ rfl
noncomputable def fM_lateBy_l29_b (R : jR) (o : Nat) (v1 : Int32) (v2 : Int32) (h : jH) : Option ((Int32 × jH) ⊕ (jH)) :=
  (if jin 1 (jsh (R o 44)).2 then
  (if v2 < (h.1 (R o 44) (1 : Int32).toNatClampNeg) then
  (if jin (1600 + v2) (jsh (R o 45)).2 then
  (if (h.1 (R o 45) (1600 + v2).toNatClampNeg) < 1000 then
  (if (h.1 (R o 45) (1600 + v2).toNatClampNeg) < 40 then
  (Option.bind (fM_qJoins R o (h.1 (R o 45) (1600 + v2).toNatClampNeg) h) (fun (z9 : jH) =>
  fM_lateBy_l29_j97 R o v1 v2 z9))
  else
  (Option.bind (fM_qPartOf R o ((h.1 (R o 45) (1600 + v2).toNatClampNeg) - 40) v1 h) (fun (z10 : Int64) =>
  (Option.bind (fM_qPuts R o z10 h) (fun (z11 : jH) =>
  fM_lateBy_l29_j97 R o v1 v2 z11)))))
  else
  (Option.bind (fM_qPuts R o (((h.1 (R o 45) (1600 + v2).toNatClampNeg) - 1000).toInt64) h) (fun (z12 : jH) =>
  fM_lateBy_l29_j97 R o v1 v2 z12)))
  else none)
  else
  some (.inr h))
  else none)
noncomputable def fM_lateBy_l29 (R : jR) (o : Nat) (v1 : Int32) : (Int32 × jH) → Option ((Int32 × jH) ⊕ (jH)) :=
  fun (s : Int32 × jH) => fM_lateBy_l29_b R o v1 s.1 s.2
theorem kM_lateBy_l29_b {X : jX} {d : Nat} {R : jR} {Q : Option Value → jS → Prop} {o : Nat} {v1 : Int32} {v2 : Int32} {h : jH} (hT : jTy R) (ho : jcl 176 o = 12) (hd : 3 ≤ (d + 1)) {z : (Int32 × jH) ⊕ (jH)} (K : fM_lateBy_l29_b R o v1 v2 h = some z) (HL : ∀ s : Int32 × jH, z = .inl s → jEx X (d + 1) jc_247 29 [some (.ref o), some (.int v1), some (.int s.1), none] [] (176, R, s.2) Q) (HE0 : ∀ x : jH, z = .inr x → jEx X (d + 1) jc_247 103 [some (.ref o), none, none, none] [] (176, R, x) Q) :
    jEx X (d + 1) jc_247 29 [some (.ref o), some (.int v1), some (.int v2), none] [] (176, R, h) Q := by
  unfold fM_lateBy_l29_b at K
  refine jx_next (pc := 29) (pc' := 30) rfl rfl ?_
  refine jx_next (pc := 30) (pc' := 31) rfl rfl ?_
  refine jx_getr (pc := 31) rfl ho ?_
  refine jx_next (pc := 34) (pc' := 35) rfl rfl ?_
  obtain ⟨hg4, K⟩ := jguard K
  refine jx_iald (pc := 35) rfl (jtR hT ho (k := 44) (c := 20) rfl) hg4 ?_
  refine jx_icge (pc := 36) rfl (fun hc5 => ?_) (fun hc5 => ?_)
  · replace K := (if_pos hc5).symm.trans K
    refine jx_next (pc := 39) (pc' := 40) rfl rfl ?_
    refine jx_getr (pc := 40) rfl ho ?_
    refine jx_next (pc := 43) (pc' := 46) rfl rfl ?_
    refine jx_next (pc := 46) (pc' := 47) rfl rfl ?_
    refine jx_next (pc := 47) (pc' := 48) rfl rfl ?_
    obtain ⟨hg6, K⟩ := jguard K
    refine jx_iald (pc := 48) rfl (jtR hT ho (k := 45) (c := 20) rfl) hg6 ?_
    refine jx_stin (pc := 49) (p2 := [some (.ref o), some (.int v1), some (.int v2), some (.int (h.1 (R o 45) (1600 + v2).toNatClampNeg))]) rfl (jlt rfl) rfl ?_
    refine jx_next (pc := 50) (pc' := 51) rfl rfl ?_
    refine jx_next (pc := 51) (pc' := 54) rfl rfl ?_
    refine jx_iclt (pc := 54) rfl (fun hc7 => ?_) (fun hc7 => ?_)
    · replace K := (if_pos hc7).symm.trans K
      refine jx_next (pc := 70) (pc' := 71) rfl rfl ?_
      refine jx_next (pc := 71) (pc' := 73) rfl rfl ?_
      refine jx_iclt (pc := 73) rfl (fun hc8 => ?_) (fun hc8 => ?_)
      · replace K := (if_pos hc8).symm.trans K
        refine jx_next (pc := 92) (pc' := 93) rfl rfl ?_
        refine jx_next (pc := 93) (pc' := 94) rfl rfl ?_
        refine jx_callv (pc := 94) (o := o) (rest := []) rfl ⟨by decide, by decide⟩ rfl ho (Nat.le_of_ble_eq_true rfl) ?_
        obtain ⟨z9, hz_z9, K⟩ := Option.bind_eq_some_iff.mp K
        refine kM_qJoins hT ho (by omega) hz_z9 ?_
        refine jx_le (pl' := [some (.ref o), some (.int v1), some (.int v2), none]) (jle_v (jle_v (jle_v (jle_n jle_nil)))) ?_
        exact kM_lateBy_l29_j97 hT ho hd K HL HE0
      · replace K := (if_neg hc8).symm.trans K
        refine jx_next (pc := 76) (pc' := 77) rfl rfl ?_
        refine jx_next (pc := 77) (pc' := 78) rfl rfl ?_
        refine jx_next (pc := 78) (pc' := 79) rfl rfl ?_
        refine jx_next (pc := 79) (pc' := 81) rfl rfl ?_
        refine jx_next (pc := 81) (pc' := 82) rfl rfl ?_
        refine jx_next (pc := 82) (pc' := 83) rfl rfl ?_
        refine jx_callv (pc := 83) (o := o) (rest := [.ref o]) rfl ⟨by decide, by decide⟩ rfl ho (Nat.le_of_ble_eq_true rfl) ?_
        obtain ⟨z10, hz_z10, K⟩ := Option.bind_eq_some_iff.mp K
        refine kM_qPartOf hT ho (by omega) hz_z10 ?_
        refine jx_callv (pc := 86) (o := o) (rest := []) rfl ⟨by decide, by decide⟩ rfl ho (Nat.le_of_ble_eq_true rfl) ?_
        obtain ⟨z11, hz_z11, K⟩ := Option.bind_eq_some_iff.mp K
        refine kM_qPuts hT ho (by omega) hz_z11 ?_
        refine jx_next (pc := 89) (pc' := 97) rfl rfl ?_
        refine jx_le (pl' := [some (.ref o), some (.int v1), some (.int v2), none]) (jle_v (jle_v (jle_v (jle_n jle_nil)))) ?_
        exact kM_lateBy_l29_j97 hT ho hd K HL HE0
    · replace K := (if_neg hc7).symm.trans K
      refine jx_next (pc := 57) (pc' := 58) rfl rfl ?_
      refine jx_next (pc := 58) (pc' := 59) rfl rfl ?_
      refine jx_next (pc := 59) (pc' := 62) rfl rfl ?_
      refine jx_next (pc := 62) (pc' := 63) rfl rfl ?_
      refine jx_next (pc := 63) (pc' := 64) rfl rfl ?_
      refine jx_callv (pc := 64) (o := o) (rest := []) rfl ⟨by decide, by decide⟩ rfl ho (Nat.le_of_ble_eq_true rfl) ?_
      obtain ⟨z12, hz_z12, K⟩ := Option.bind_eq_some_iff.mp K
      refine kM_qPuts hT ho (by omega) hz_z12 ?_
      refine jx_next (pc := 67) (pc' := 97) rfl rfl ?_
      refine jx_le (pl' := [some (.ref o), some (.int v1), some (.int v2), none]) (jle_v (jle_v (jle_v (jle_n jle_nil)))) ?_
      exact kM_lateBy_l29_j97 hT ho hd K HL HE0
  · replace K := (if_neg hc5).symm.trans K
    obtain rfl := Option.some.inj K
    refine jx_le (pl' := [some (.ref o), none, none, none]) (jle_v (jle_n (jle_n (jle_n jle_nil)))) ?_
    exact HE0 _ rfl
theorem kM_lateBy_l29_w {X : jX} {d : Nat} {R : jR} {Q : Option Value → jS → Prop} {o : Nat} {v1 : Int32} (hT : jTy R) (ho : jcl 176 o = 12) (hd : 3 ≤ (d + 1)) {s : Int32 × jH} {x : jH} (K : jlim (fM_lateBy_l29 R o v1) s = some x) (HE : jEx X (d + 1) jc_247 103 [some (.ref o), none, none, none] [] (176, R, x) Q) :
    jEx X (d + 1) jc_247 29 [some (.ref o), some (.int v1), some (.int s.1), none] [] (176, R, s.2) Q := by
  refine jlim_ok (G := fun s : Int32 × jH => jEx X (d + 1) jc_247 29 [some (.ref o), some (.int v1), some (.int s.1), none] [] (176, R, s.2) Q) (GX := fun x : jH => jEx X (d + 1) jc_247 103 [some (.ref o), none, none, none] [] (176, R, x) Q) (fun s z hz HL HE => ?_) K HE
  exact kM_lateBy_l29_b hT ho hd hz HL HE
/-- AndGuestModel.lateBy(I)J -/
noncomputable def fM_lateBy (R : jR) (o : Nat) (v1 : Int32) (h : jH) : Option (Int64 × jH) :=
  (if jin 1 (jsh (R o 43)).2 then
  (if (h.1 (R o 43) (1 : Int32).toNatClampNeg) = (-1) then
  some (0, h)
  else
  (if jin 1 (jsh (R o 43)).2 then
  (Option.bind (jlim (fM_lateBy_l29 R o v1) ((jhI (jhI h o 49 1) o 86 0).1 (R o 43) (1 : Int32).toNatClampNeg, jhI (jhI h o 49 1) o 86 0)) (fun (x13 : jH) =>
  (if jin 0 (jsh (R o 85)).2 then
  (if (x13.2 (R o 85) (0 : Int32).toNatClampNeg) < 0 then
  some (0, x13)
  else
  (if jin 0 (jsh (R o 85)).2 then
  (if 999 < (x13.2 (R o 85) (0 : Int32).toNatClampNeg) then
  some (999, x13)
  else
  (if jin 0 (jsh (R o 85)).2 then
  some (x13.2 (R o 85) (0 : Int32).toNatClampNeg, x13)
  else none))
  else none))
  else none)))
  else none))
  else none)
theorem kM_lateBy {X : jX} {d : Nat} {R : jR} {Q : Option Value → jS → Prop} {o : Nat} {v1 : Int32} {h : jH} (hT : jTy R) (ho : jcl 176 o = 12) (hd : 3 ≤ d) {z : Int64 × jH} (K : fM_lateBy R o v1 h = some z) (HQ : Q (some (.long z.1)) (176, R, z.2)) :
    jCa X d 247 [.ref o, .int v1] (176, R, h) Q := by
  obtain ⟨d, rfl⟩ : ∃ d9, d = d9 + 1 := ⟨d - 1, by omega⟩
  unfold fM_lateBy at K
  refine jCa_of (es := jc_247) (pl := [some (.ref o), some (.int v1), none, none]) (M := jm_247) rfl rfl rfl rfl ?_
  refine jx_next (pc := 0) (pc' := 1) rfl rfl ?_
  refine jx_getr (pc := 1) rfl ho ?_
  refine jx_next (pc := 4) (pc' := 5) rfl rfl ?_
  obtain ⟨hg1, K⟩ := jguard K
  refine jx_iald (pc := 5) rfl (jtR hT ho (k := 43) (c := 20) rfl) hg1 ?_
  refine jx_next (pc := 6) (pc' := 7) rfl rfl ?_
  refine jx_icne (pc := 7) rfl (fun hc2 => ?_) (fun hc2 => ?_)
  · replace K := (if_pos hc2).symm.trans K
    refine jx_next (pc := 10) (pc' := 11) rfl rfl ?_
    obtain rfl := Option.some.inj K
    exact jx_ret (pc := 11) rfl rfl HQ
  · replace K := (if_neg hc2).symm.trans K
    refine jx_next (pc := 12) (pc' := 13) rfl rfl ?_
    refine jx_next (pc := 13) (pc' := 14) rfl rfl ?_
    refine jx_putz (pc := 14) rfl ho (Or.inr rfl) ?_
    refine jx_next (pc := 17) (pc' := 18) rfl rfl ?_
    refine jx_next (pc := 18) (pc' := 19) rfl rfl ?_
    refine jx_puti (pc := 19) rfl ho ?_
    refine jx_next (pc := 22) (pc' := 23) rfl rfl ?_
    refine jx_getr (pc := 23) rfl ho ?_
    refine jx_next (pc := 26) (pc' := 27) rfl rfl ?_
    obtain ⟨hg3, K⟩ := jguard K
    refine jx_iald (pc := 27) rfl (jtR hT ho (k := 43) (c := 20) rfl) hg3 ?_
    refine jx_stin (pc := 28) (p2 := [some (.ref o), some (.int v1), some (.int ((jhI (jhI h o 49 1) o 86 0).1 (R o 43) (1 : Int32).toNatClampNeg)), none]) rfl (jlt rfl) rfl ?_
    refine jx_le (pl' := [some (.ref o), some (.int v1), some (.int ((jhI (jhI h o 49 1) o 86 0).1 (R o 43) (1 : Int32).toNatClampNeg)), none]) (jle_v (jle_v (jle_v (jle_n jle_nil)))) ?_
    obtain ⟨x13, hz_x13, K⟩ := Option.bind_eq_some_iff.mp K
    refine kM_lateBy_l29_w hT ho hd hz_x13 ?_
    refine jx_next (pc := 103) (pc' := 104) rfl rfl ?_
    refine jx_getr (pc := 104) rfl ho ?_
    refine jx_next (pc := 107) (pc' := 108) rfl rfl ?_
    obtain ⟨hg14, K⟩ := jguard K
    refine jx_lald (pc := 108) rfl (jtR hT ho (k := 85) (c := 21) rfl) hg14 ?_
    refine jx_next (pc := 109) (pc' := 110) rfl rfl ?_
    refine jx_lcge (pc := 110) rfl rfl (fun hc15 => ?_) (fun hc15 => ?_)
    · replace K := (if_pos hc15).symm.trans K
      refine jx_next (pc := 114) (pc' := 115) rfl rfl ?_
      refine jx_next (pc := 115) (pc' := 143) rfl rfl ?_
      obtain rfl := Option.some.inj K
      exact jx_ret (pc := 143) rfl rfl HQ
    · replace K := (if_neg hc15).symm.trans K
      refine jx_next (pc := 118) (pc' := 119) rfl rfl ?_
      refine jx_getr (pc := 119) rfl ho ?_
      refine jx_next (pc := 122) (pc' := 123) rfl rfl ?_
      obtain ⟨hg16, K⟩ := jguard K
      refine jx_lald (pc := 123) rfl (jtR hT ho (k := 85) (c := 21) rfl) hg16 ?_
      refine jx_next (pc := 124) (pc' := 127) rfl rfl ?_
      refine jx_lcle (pc := 127) rfl rfl (fun hc17 => ?_) (fun hc17 => ?_)
      · replace K := (if_pos hc17).symm.trans K
        refine jx_next (pc := 131) (pc' := 134) rfl rfl ?_
        refine jx_next (pc := 134) (pc' := 143) rfl rfl ?_
        obtain rfl := Option.some.inj K
        exact jx_ret (pc := 143) rfl rfl HQ
      · replace K := (if_neg hc17).symm.trans K
        refine jx_next (pc := 137) (pc' := 138) rfl rfl ?_
        refine jx_getr (pc := 138) rfl ho ?_
        refine jx_next (pc := 141) (pc' := 142) rfl rfl ?_
        obtain ⟨hg18, K⟩ := jguard K
        refine jx_lald (pc := 142) rfl (jtR hT ho (k := 85) (c := 21) rfl) hg18 ?_
        obtain rfl := Option.some.inj K
        exact jx_ret (pc := 143) rfl rfl HQ
/-- AndGuestModel.offenceOf(I)I -/
noncomputable def fM_offenceOf (R : jR) (o : Nat) (v1 : Int32) (h : jH) : Option (Int32 × jH) :=
  (Option.bind (fM_isAsked R o v1 h) (fun (z1 : Int32) =>
  (if z1 = 0 then
  (if jin (8 + v1) (jsh (R o 41)).2 then
  (Option.bind (fM_askedSet R o h) (fun (z4 : Int32) =>
  (if ((h.1 (R o 41) (8 + v1).toNatClampNeg) &&& z4) = 0 then
  some (0, h)
  else
  (if jin (35 + (4 * v1)) (jsh (R o 39)).2 then
  some (h.1 (R o 39) (35 + (4 * v1)).toNatClampNeg, h)
  else none))))
  else none)
  else
  (Option.bind (fM_weeksOf R o v1 h) (fun (z7 : Int32) =>
  (if 0 < z7 then
  (Option.bind (fM_lateBy R o v1 h) (fun (z9 : Int64 × jH) =>
  some (z9.1.toInt32, z9.2)))
  else
  some (0, h)))))))
theorem kM_offenceOf {X : jX} {d : Nat} {R : jR} {Q : Option Value → jS → Prop} {o : Nat} {v1 : Int32} {h : jH} (hT : jTy R) (ho : jcl 176 o = 12) (hd : 4 ≤ d) {z : Int32 × jH} (K : fM_offenceOf R o v1 h = some z) (HQ : Q (some (.int z.1)) (176, R, z.2)) :
    jCa X d 245 [.ref o, .int v1] (176, R, h) Q := by
  obtain ⟨d, rfl⟩ : ∃ d9, d = d9 + 1 := ⟨d - 1, by omega⟩
  unfold fM_offenceOf at K
  refine jCa_of (es := jc_245) (pl := [some (.ref o), some (.int v1)]) (M := jm_245) rfl rfl rfl rfl ?_
  refine jx_next (pc := 0) (pc' := 1) rfl rfl ?_
  refine jx_next (pc := 1) (pc' := 2) rfl rfl ?_
  refine jx_callv (pc := 2) (o := o) (rest := []) rfl ⟨by decide, by decide⟩ rfl ho (Nat.le_of_ble_eq_true rfl) ?_
  obtain ⟨z1, hz_z1, K⟩ := Option.bind_eq_some_iff.mp K
  refine kM_isAsked hT ho (by omega) hz_z1 ?_
  refine jx_ifne (pc := 5) rfl (fun hc2 => ?_) (fun hc2 => ?_)
  · replace K := (if_pos hc2).symm.trans K
    refine jx_next (pc := 8) (pc' := 9) rfl rfl ?_
    refine jx_getr (pc := 9) rfl ho ?_
    refine jx_next (pc := 12) (pc' := 14) rfl rfl ?_
    refine jx_next (pc := 14) (pc' := 15) rfl rfl ?_
    refine jx_next (pc := 15) (pc' := 16) rfl rfl ?_
    obtain ⟨hg3, K⟩ := jguard K
    refine jx_iald (pc := 16) rfl (jtR hT ho (k := 41) (c := 20) rfl) hg3 ?_
    refine jx_next (pc := 17) (pc' := 18) rfl rfl ?_
    refine jx_callv (pc := 18) (o := o) (rest := [.int (h.1 (R o 41) (8 + v1).toNatClampNeg)]) rfl ⟨by decide, by decide⟩ rfl ho (Nat.le_of_ble_eq_true rfl) ?_
    obtain ⟨z4, hz_z4, K⟩ := Option.bind_eq_some_iff.mp K
    refine kM_askedSet hT ho (by omega) hz_z4 ?_
    refine jx_next (pc := 21) (pc' := 22) rfl rfl ?_
    refine jx_ifeq (pc := 22) rfl (fun hc5 => ?_) (fun hc5 => ?_)
    · replace K := (if_pos hc5).symm.trans K
      refine jx_next (pc := 39) (pc' := 40) rfl rfl ?_
      obtain rfl := Option.some.inj K
      exact jx_iret (pc := 40) rfl HQ
    · replace K := (if_neg hc5).symm.trans K
      refine jx_next (pc := 25) (pc' := 26) rfl rfl ?_
      refine jx_getr (pc := 26) rfl ho ?_
      refine jx_next (pc := 29) (pc' := 31) rfl rfl ?_
      refine jx_next (pc := 31) (pc' := 32) rfl rfl ?_
      refine jx_next (pc := 32) (pc' := 33) rfl rfl ?_
      refine jx_next (pc := 33) (pc' := 34) rfl rfl ?_
      refine jx_next (pc := 34) (pc' := 35) rfl rfl ?_
      obtain ⟨hg6, K⟩ := jguard K
      refine jx_iald (pc := 35) rfl (jtR hT ho (k := 39) (c := 20) rfl) hg6 ?_
      refine jx_next (pc := 36) (pc' := 40) rfl rfl ?_
      obtain rfl := Option.some.inj K
      exact jx_iret (pc := 40) rfl HQ
  · replace K := (if_neg hc2).symm.trans K
    refine jx_next (pc := 41) (pc' := 42) rfl rfl ?_
    refine jx_next (pc := 42) (pc' := 43) rfl rfl ?_
    refine jx_callv (pc := 43) (o := o) (rest := []) rfl ⟨by decide, by decide⟩ rfl ho (Nat.le_of_ble_eq_true rfl) ?_
    obtain ⟨z7, hz_z7, K⟩ := Option.bind_eq_some_iff.mp K
    refine kM_weeksOf hT ho (by omega) hz_z7 ?_
    refine jx_ifle (pc := 46) rfl (fun hc8 => ?_) (fun hc8 => ?_)
    · replace K := (if_pos hc8).symm.trans K
      refine jx_next (pc := 49) (pc' := 50) rfl rfl ?_
      refine jx_next (pc := 50) (pc' := 51) rfl rfl ?_
      refine jx_callv (pc := 51) (o := o) (rest := []) rfl ⟨by decide, by decide⟩ rfl ho (Nat.le_of_ble_eq_true rfl) ?_
      obtain ⟨z9, hz_z9, K⟩ := Option.bind_eq_some_iff.mp K
      refine kM_lateBy hT ho (by omega) hz_z9 ?_
      refine jx_next (pc := 54) (pc' := 55) rfl rfl ?_
      refine jx_next (pc := 55) (pc' := 59) rfl rfl ?_
      obtain rfl := Option.some.inj K
      exact jx_iret (pc := 59) rfl HQ
    · replace K := (if_neg hc8).symm.trans K
      refine jx_next (pc := 58) (pc' := 59) rfl rfl ?_
      obtain rfl := Option.some.inj K
      exact jx_iret (pc := 59) rfl HQ
noncomputable def fM_guest_j56 (R : jR) (o : Nat) (v1 : Int32) (v2 : Int32) (h : jH) : Option (Int32 × jH) :=
  (if jin ((32 + (4 * v1)) + v2) (jsh (R o 39)).2 then
  some (h.1 (R o 39) ((32 + (4 * v1)) + v2).toNatClampNeg, h)
  else none)
theorem kM_guest_j56 {X : jX} {d : Nat} {R : jR} {Q : Option Value → jS → Prop} {o : Nat} {v1 : Int32} {v2 : Int32} {h : jH} (hT : jTy R) (ho : jcl 176 o = 12) (hd : 5 ≤ (d + 1)) {z : Int32 × jH} (K : fM_guest_j56 R o v1 v2 h = some z) (HQ : Q (some (.int z.1)) (176, R, z.2)) :
    jEx X (d + 1) jc_242 56 [some (.ref o), some (.int v1), some (.int v2)] [] (176, R, h) Q := by
  unfold fM_guest_j56 at K
  refine jx_next (pc := 56) (pc' := 57) rfl rfl ?_
  refine jx_getr (pc := 57) rfl ho ?_
  refine jx_next (pc := 60) (pc' := 62) rfl rfl ?_
  refine jx_next (pc := 62) (pc' := 63) rfl rfl ?_
  refine jx_next (pc := 63) (pc' := 64) rfl rfl ?_
  refine jx_next (pc := 64) (pc' := 65) rfl rfl ?_
  refine jx_next (pc := 65) (pc' := 66) rfl rfl ?_
  refine jx_next (pc := 66) (pc' := 67) rfl rfl ?_
  refine jx_next (pc := 67) (pc' := 68) rfl rfl ?_
  obtain ⟨hg3, K⟩ := jguard K
  refine jx_iald (pc := 68) rfl (jtR hT ho (k := 39) (c := 20) rfl) hg3 ?_
  obtain rfl := Option.some.inj K
  exact jx_iret (pc := 69) rfl HQ
/-- AndGuestModel.guest(II)I -/
noncomputable def fM_guest (R : jR) (o : Nat) (v1 : Int32) (v2 : Int32) (h : jH) : Option (Int32 × jH) :=
  (Option.bind (fM_isGuest R o v1 h) (fun (z1 : Int32) =>
  (if z1 = 0 then
  some ((-1), h)
  else
  (if v2 = 0 then
  fM_guest_j56 R o v1 v2 h
  else
  (if v2 = 1 then
  fM_guest_j56 R o v1 v2 h
  else
  (if v2 = 2 then
  fM_guest_j56 R o v1 v2 h
  else
  (if v2 = 3 then
  fM_guest_j56 R o v1 v2 h
  else
  (if v2 = 4 then
  (Option.bind (fM_howOf R o v1 h) (fun (z4 : Int32) =>
  some (z4, h)))
  else
  (if v2 = 5 then
  (Option.bind (fM_tensOf R o v1 h) (fun (z5 : Int32) =>
  some (z5, h)))
  else
  (if v2 = 6 then
  (Option.bind (fM_offenceOf R o v1 h) (fun (z6 : Int32 × jH) =>
  some (z6.1, z6.2)))
  else
  (if v2 = 7 then
  (Option.bind (fM_isAsked R o v1 h) (fun (z7 : Int32) =>
  (if z7 = 0 then
  some ((-1), h)
  else
  (Option.bind (fM_weeksOf R o v1 h) (fun (z9 : Int32) =>
  some (z9, h))))))
  else
  some ((-1), h))))))))))))
theorem kM_guest {X : jX} {d : Nat} {R : jR} {Q : Option Value → jS → Prop} {o : Nat} {v1 : Int32} {v2 : Int32} {h : jH} (hT : jTy R) (ho : jcl 176 o = 12) (hd : 5 ≤ d) {z : Int32 × jH} (K : fM_guest R o v1 v2 h = some z) (HQ : Q (some (.int z.1)) (176, R, z.2)) :
    jCa X d 242 [.ref o, .int v1, .int v2] (176, R, h) Q := by
  obtain ⟨d, rfl⟩ : ∃ d9, d = d9 + 1 := ⟨d - 1, by omega⟩
  unfold fM_guest at K
  refine jCa_of (es := jc_242) (pl := [some (.ref o), some (.int v1), some (.int v2)]) (M := jm_242) rfl rfl rfl rfl ?_
  refine jx_next (pc := 0) (pc' := 1) rfl rfl ?_
  refine jx_next (pc := 1) (pc' := 2) rfl rfl ?_
  refine jx_callv (pc := 2) (o := o) (rest := []) rfl ⟨by decide, by decide⟩ rfl ho (Nat.le_of_ble_eq_true rfl) ?_
  obtain ⟨z1, hz_z1, K⟩ := Option.bind_eq_some_iff.mp K
  refine kM_isGuest hT ho (by omega) hz_z1 ?_
  refine jx_ifne (pc := 5) rfl (fun hc2 => ?_) (fun hc2 => ?_)
  · replace K := (if_pos hc2).symm.trans K
    refine jx_next (pc := 8) (pc' := 9) rfl rfl ?_
    obtain rfl := Option.some.inj K
    exact jx_iret (pc := 9) rfl HQ
  · replace K := (if_neg hc2).symm.trans K
    refine jx_next (pc := 10) (pc' := 11) rfl rfl ?_
    refine jx_tsw (pc := 11) rfl ?_
    refine jx_sw1 (fun hc17 => ?_) (fun hc17 => ?_)
    · replace K := (if_pos hc17).symm.trans K
      refine jx_le (pl' := [some (.ref o), some (.int v1), some (.int v2)]) (jle_v (jle_v (jle_v jle_nil))) ?_
      exact kM_guest_j56 hT ho hd K HQ
    · replace K := (if_neg hc17).symm.trans K
      refine jx_sw1 (fun hc16 => ?_) (fun hc16 => ?_)
      · replace K := (if_pos hc16).symm.trans K
        refine jx_le (pl' := [some (.ref o), some (.int v1), some (.int v2)]) (jle_v (jle_v (jle_v jle_nil))) ?_
        exact kM_guest_j56 hT ho hd K HQ
      · replace K := (if_neg hc16).symm.trans K
        refine jx_sw1 (fun hc15 => ?_) (fun hc15 => ?_)
        · replace K := (if_pos hc15).symm.trans K
          refine jx_le (pl' := [some (.ref o), some (.int v1), some (.int v2)]) (jle_v (jle_v (jle_v jle_nil))) ?_
          exact kM_guest_j56 hT ho hd K HQ
        · replace K := (if_neg hc15).symm.trans K
          refine jx_sw1 (fun hc14 => ?_) (fun hc14 => ?_)
          · replace K := (if_pos hc14).symm.trans K
            refine jx_le (pl' := [some (.ref o), some (.int v1), some (.int v2)]) (jle_v (jle_v (jle_v jle_nil))) ?_
            exact kM_guest_j56 hT ho hd K HQ
          · replace K := (if_neg hc14).symm.trans K
            refine jx_sw1 (fun hc13 => ?_) (fun hc13 => ?_)
            · replace K := (if_pos hc13).symm.trans K
              refine jx_next (pc := 70) (pc' := 71) rfl rfl ?_
              refine jx_next (pc := 71) (pc' := 72) rfl rfl ?_
              refine jx_callv (pc := 72) (o := o) (rest := []) rfl ⟨by decide, by decide⟩ rfl ho (Nat.le_of_ble_eq_true rfl) ?_
              obtain ⟨z4, hz_z4, K⟩ := Option.bind_eq_some_iff.mp K
              refine kM_howOf hT ho (by omega) hz_z4 ?_
              obtain rfl := Option.some.inj K
              exact jx_iret (pc := 75) rfl HQ
            · replace K := (if_neg hc13).symm.trans K
              refine jx_sw1 (fun hc12 => ?_) (fun hc12 => ?_)
              · replace K := (if_pos hc12).symm.trans K
                refine jx_next (pc := 76) (pc' := 77) rfl rfl ?_
                refine jx_next (pc := 77) (pc' := 78) rfl rfl ?_
                refine jx_callv (pc := 78) (o := o) (rest := []) rfl ⟨by decide, by decide⟩ rfl ho (Nat.le_of_ble_eq_true rfl) ?_
                obtain ⟨z5, hz_z5, K⟩ := Option.bind_eq_some_iff.mp K
                refine kM_tensOf hT ho (by omega) hz_z5 ?_
                obtain rfl := Option.some.inj K
                exact jx_iret (pc := 81) rfl HQ
              · replace K := (if_neg hc12).symm.trans K
                refine jx_sw1 (fun hc11 => ?_) (fun hc11 => ?_)
                · replace K := (if_pos hc11).symm.trans K
                  refine jx_next (pc := 82) (pc' := 83) rfl rfl ?_
                  refine jx_next (pc := 83) (pc' := 84) rfl rfl ?_
                  refine jx_callv (pc := 84) (o := o) (rest := []) rfl ⟨by decide, by decide⟩ rfl ho (Nat.le_of_ble_eq_true rfl) ?_
                  obtain ⟨z6, hz_z6, K⟩ := Option.bind_eq_some_iff.mp K
                  refine kM_offenceOf hT ho (by omega) hz_z6 ?_
                  obtain rfl := Option.some.inj K
                  exact jx_iret (pc := 87) rfl HQ
                · replace K := (if_neg hc11).symm.trans K
                  refine jx_sw1 (fun hc10 => ?_) (fun hc10 => ?_)
                  · replace K := (if_pos hc10).symm.trans K
                    refine jx_next (pc := 88) (pc' := 89) rfl rfl ?_
                    refine jx_next (pc := 89) (pc' := 90) rfl rfl ?_
                    refine jx_callv (pc := 90) (o := o) (rest := []) rfl ⟨by decide, by decide⟩ rfl ho (Nat.le_of_ble_eq_true rfl) ?_
                    obtain ⟨z7, hz_z7, K⟩ := Option.bind_eq_some_iff.mp K
                    refine kM_isAsked hT ho (by omega) hz_z7 ?_
                    refine jx_ifeq (pc := 93) rfl (fun hc8 => ?_) (fun hc8 => ?_)
                    · replace K := (if_pos hc8).symm.trans K
                      refine jx_next (pc := 104) (pc' := 105) rfl rfl ?_
                      obtain rfl := Option.some.inj K
                      exact jx_iret (pc := 105) rfl HQ
                    · replace K := (if_neg hc8).symm.trans K
                      refine jx_next (pc := 96) (pc' := 97) rfl rfl ?_
                      refine jx_next (pc := 97) (pc' := 98) rfl rfl ?_
                      refine jx_callv (pc := 98) (o := o) (rest := []) rfl ⟨by decide, by decide⟩ rfl ho (Nat.le_of_ble_eq_true rfl) ?_
                      obtain ⟨z9, hz_z9, K⟩ := Option.bind_eq_some_iff.mp K
                      refine kM_weeksOf hT ho (by omega) hz_z9 ?_
                      refine jx_next (pc := 101) (pc' := 105) rfl rfl ?_
                      obtain rfl := Option.some.inj K
                      exact jx_iret (pc := 105) rfl HQ
                  · replace K := (if_neg hc10).symm.trans K
                    refine jx_sw0 ?_
                    refine jx_next (pc := 106) (pc' := 107) rfl rfl ?_
                    obtain rfl := Option.some.inj K
                    exact jx_iret (pc := 107) rfl HQ
noncomputable def fM_farOf_l17_j49 (R : jR) (o : Nat) (v2 : Int32) (v3 : Int32) (v4 : Int32) (h : jH) : Option ((Int32 × Int32) ⊕ (Int32)) :=
  some (.inl (v2, v4 + 1))
theorem kM_farOf_l17_j49 {X : jX} {d : Nat} {R : jR} {Q : Option Value → jS → Prop} {o : Nat} {v2 : Int32} {v3 : Int32} {v4 : Int32} {h : jH} (hT : jTy R) (ho : jcl 176 o = 12) (hd : 1 ≤ (d + 1)) {z : (Int32 × Int32) ⊕ (Int32)} (K : fM_farOf_l17_j49 R o v2 v3 v4 h = some z) (HL : ∀ s : Int32 × Int32, z = .inl s → jEx X (d + 1) jc_255 17 [some (.ref o), none, some (.int s.1), some (.int v3), some (.int s.2)] [] (176, R, h) Q) (HE0 : ∀ x : Int32, z = .inr x → jEx X (d + 1) jc_255 55 [some (.ref o), none, some (.int x), some (.int v3), none] [] (176, R, h) Q) :
    jEx X (d + 1) jc_255 49 [some (.ref o), none, some (.int v2), some (.int v3), some (.int v4)] [] (176, R, h) Q := by
  unfold fM_farOf_l17_j49 at K
  refine jx_inc (pc := 49) (x := v4) (p2 := [some (.ref o), none, some (.int v2), some (.int v3), some (.int (v4 + 1))]) rfl rfl (jlt rfl) rfl ?_
  refine jx_next (pc := 52) (pc' := 17) rfl rfl ?_
  obtain rfl := Option.some.inj K
  refine jx_le (pl' := [some (.ref o), none, some (.int v2), some (.int v3), some (.int (v4 + 1))]) (jle_v (jle_n (jle_v (jle_v (jle_v jle_nil))))) ?_
  exact HL _ rfl
noncomputable def fM_farOf_l17_b (R : jR) (o : Nat) (v3 : Int32) (v2 : Int32) (v4 : Int32) (h : jH) : Option ((Int32 × Int32) ⊕ (Int32)) :=
  (Option.bind (fM_guestMany R o h) (fun (z3 : Int32) =>
  (if v4 < z3 then
  (if ((v2 >>> (v4 &&& 31)) &&& 1) = 1 then
  (if jin (8 + v4) (jsh (R o 40)).2 then
  fM_farOf_l17_j49 R o (v2 ||| (h.1 (R o 40) (8 + v4).toNatClampNeg)) v3 v4 h
  else none)
  else
  fM_farOf_l17_j49 R o v2 v3 v4 h)
  else
  some (.inr v2))))
noncomputable def fM_farOf_l17 (R : jR) (o : Nat) (v3 : Int32) (h : jH) : (Int32 × Int32) → Option ((Int32 × Int32) ⊕ (Int32)) :=
  fun (s : Int32 × Int32) => fM_farOf_l17_b R o v3 s.1 s.2 h
theorem kM_farOf_l17_b {X : jX} {d : Nat} {R : jR} {Q : Option Value → jS → Prop} {o : Nat} {v3 : Int32} {v2 : Int32} {v4 : Int32} {h : jH} (hT : jTy R) (ho : jcl 176 o = 12) (hd : 1 ≤ (d + 1)) {z : (Int32 × Int32) ⊕ (Int32)} (K : fM_farOf_l17_b R o v3 v2 v4 h = some z) (HL : ∀ s : Int32 × Int32, z = .inl s → jEx X (d + 1) jc_255 17 [some (.ref o), none, some (.int s.1), some (.int v3), some (.int s.2)] [] (176, R, h) Q) (HE0 : ∀ x : Int32, z = .inr x → jEx X (d + 1) jc_255 55 [some (.ref o), none, some (.int x), some (.int v3), none] [] (176, R, h) Q) :
    jEx X (d + 1) jc_255 17 [some (.ref o), none, some (.int v2), some (.int v3), some (.int v4)] [] (176, R, h) Q := by
  unfold fM_farOf_l17_b at K
  refine jx_next (pc := 17) (pc' := 19) rfl rfl ?_
  refine jx_next (pc := 19) (pc' := 20) rfl rfl ?_
  refine jx_callv (pc := 20) (o := o) (rest := [.int v4]) rfl ⟨by decide, by decide⟩ rfl ho (Nat.le_of_ble_eq_true rfl) ?_
  obtain ⟨z3, hz_z3, K⟩ := Option.bind_eq_some_iff.mp K
  refine kM_guestMany hT ho (by omega) hz_z3 ?_
  refine jx_icge (pc := 23) rfl (fun hc4 => ?_) (fun hc4 => ?_)
  · replace K := (if_pos hc4).symm.trans K
    refine jx_next (pc := 26) (pc' := 27) rfl rfl ?_
    refine jx_next (pc := 27) (pc' := 29) rfl rfl ?_
    refine jx_next (pc := 29) (pc' := 30) rfl rfl ?_
    refine jx_next (pc := 30) (pc' := 31) rfl rfl ?_
    refine jx_next (pc := 31) (pc' := 32) rfl rfl ?_
    refine jx_next (pc := 32) (pc' := 33) rfl rfl ?_
    refine jx_icne (pc := 33) rfl (fun hc5 => ?_) (fun hc5 => ?_)
    · replace K := (if_pos hc5).symm.trans K
      refine jx_next (pc := 36) (pc' := 37) rfl rfl ?_
      refine jx_next (pc := 37) (pc' := 38) rfl rfl ?_
      refine jx_getr (pc := 38) rfl ho ?_
      refine jx_next (pc := 41) (pc' := 43) rfl rfl ?_
      refine jx_next (pc := 43) (pc' := 45) rfl rfl ?_
      refine jx_next (pc := 45) (pc' := 46) rfl rfl ?_
      obtain ⟨hg6, K⟩ := jguard K
      refine jx_iald (pc := 46) rfl (jtR hT ho (k := 40) (c := 20) rfl) hg6 ?_
      refine jx_next (pc := 47) (pc' := 48) rfl rfl ?_
      refine jx_stin (pc := 48) (p2 := [some (.ref o), none, some (.int (v2 ||| (h.1 (R o 40) (8 + v4).toNatClampNeg))), some (.int v3), some (.int v4)]) rfl (jlt rfl) rfl ?_
      refine jx_le (pl' := [some (.ref o), none, some (.int (v2 ||| (h.1 (R o 40) (8 + v4).toNatClampNeg))), some (.int v3), some (.int v4)]) (jle_v (jle_n (jle_v (jle_v (jle_v jle_nil))))) ?_
      exact kM_farOf_l17_j49 hT ho hd K HL HE0
    · replace K := (if_neg hc5).symm.trans K
      refine jx_le (pl' := [some (.ref o), none, some (.int v2), some (.int v3), some (.int v4)]) (jle_v (jle_n (jle_v (jle_v (jle_v jle_nil))))) ?_
      exact kM_farOf_l17_j49 hT ho hd K HL HE0
  · replace K := (if_neg hc4).symm.trans K
    obtain rfl := Option.some.inj K
    refine jx_le (pl' := [some (.ref o), none, some (.int v2), some (.int v3), none]) (jle_v (jle_n (jle_v (jle_v (jle_n jle_nil))))) ?_
    exact HE0 _ rfl
theorem kM_farOf_l17_w {X : jX} {d : Nat} {R : jR} {Q : Option Value → jS → Prop} {o : Nat} {v3 : Int32} {h : jH} (hT : jTy R) (ho : jcl 176 o = 12) (hd : 1 ≤ (d + 1)) {s : Int32 × Int32} {x : Int32} (K : jlim (fM_farOf_l17 R o v3 h) s = some x) (HE : jEx X (d + 1) jc_255 55 [some (.ref o), none, some (.int x), some (.int v3), none] [] (176, R, h) Q) :
    jEx X (d + 1) jc_255 17 [some (.ref o), none, some (.int s.1), some (.int v3), some (.int s.2)] [] (176, R, h) Q := by
  refine jlim_ok (G := fun s : Int32 × Int32 => jEx X (d + 1) jc_255 17 [some (.ref o), none, some (.int s.1), some (.int v3), some (.int s.2)] [] (176, R, h) Q) (GX := fun x : Int32 => jEx X (d + 1) jc_255 55 [some (.ref o), none, some (.int x), some (.int v3), none] [] (176, R, h) Q) (fun s z hz HL HE => ?_) K HE
  exact kM_farOf_l17_b hT ho hd hz HL HE
noncomputable def fM_farOf_l6_b (R : jR) (o : Nat) (v2 : Int32) (v3 : Int32) (h : jH) : Option ((Int32 × Int32) ⊕ (Int32)) :=
  (Option.bind (fM_guestMany R o h) (fun (z1 : Int32) =>
  (if v3 < z1 then
  (Option.bind (jlim (fM_farOf_l17 R o v3 h) (v2, 0)) (fun (x7 : Int32) =>
  some (.inl (x7, v3 + 1))))
  else
  some (.inr v2))))
noncomputable def fM_farOf_l6 (R : jR) (o : Nat) (h : jH) : (Int32 × Int32) → Option ((Int32 × Int32) ⊕ (Int32)) :=
  fun (s : Int32 × Int32) => fM_farOf_l6_b R o s.1 s.2 h
theorem kM_farOf_l6_b {X : jX} {d : Nat} {R : jR} {Q : Option Value → jS → Prop} {o : Nat} {v2 : Int32} {v3 : Int32} {h : jH} (hT : jTy R) (ho : jcl 176 o = 12) (hd : 1 ≤ (d + 1)) {z : (Int32 × Int32) ⊕ (Int32)} (K : fM_farOf_l6_b R o v2 v3 h = some z) (HL : ∀ s : Int32 × Int32, z = .inl s → jEx X (d + 1) jc_255 6 [some (.ref o), none, some (.int s.1), some (.int s.2), none] [] (176, R, h) Q) (HE0 : ∀ x : Int32, z = .inr x → jEx X (d + 1) jc_255 61 [none, none, some (.int x), none, none] [] (176, R, h) Q) :
    jEx X (d + 1) jc_255 6 [some (.ref o), none, some (.int v2), some (.int v3), none] [] (176, R, h) Q := by
  unfold fM_farOf_l6_b at K
  refine jx_next (pc := 6) (pc' := 7) rfl rfl ?_
  refine jx_next (pc := 7) (pc' := 8) rfl rfl ?_
  refine jx_callv (pc := 8) (o := o) (rest := [.int v3]) rfl ⟨by decide, by decide⟩ rfl ho (Nat.le_of_ble_eq_true rfl) ?_
  obtain ⟨z1, hz_z1, K⟩ := Option.bind_eq_some_iff.mp K
  refine kM_guestMany hT ho (by omega) hz_z1 ?_
  refine jx_icge (pc := 11) rfl (fun hc2 => ?_) (fun hc2 => ?_)
  · replace K := (if_pos hc2).symm.trans K
    refine jx_next (pc := 14) (pc' := 15) rfl rfl ?_
    refine jx_sti (pc := 15) (p2 := [some (.ref o), none, some (.int v2), some (.int v3), some (.int 0)]) rfl (jlt rfl) rfl ?_
    refine jx_le (pl' := [some (.ref o), none, some (.int v2), some (.int v3), some (.int 0)]) (jle_v (jle_n (jle_v (jle_v (jle_v jle_nil))))) ?_
    obtain ⟨x7, hz_x7, K⟩ := Option.bind_eq_some_iff.mp K
    refine kM_farOf_l17_w hT ho hd hz_x7 ?_
    refine jx_inc (pc := 55) (x := v3) (p2 := [some (.ref o), none, some (.int x7), some (.int (v3 + 1)), none]) rfl rfl (jlt rfl) rfl ?_
    refine jx_next (pc := 58) (pc' := 6) rfl rfl ?_
    obtain rfl := Option.some.inj K
    refine jx_le (pl' := [some (.ref o), none, some (.int x7), some (.int (v3 + 1)), none]) (jle_v (jle_n (jle_v (jle_v (jle_n jle_nil))))) ?_
    exact HL _ rfl
  · replace K := (if_neg hc2).symm.trans K
    obtain rfl := Option.some.inj K
    refine jx_le (pl' := [none, none, some (.int v2), none, none]) (jle_n (jle_n (jle_v (jle_n (jle_n jle_nil))))) ?_
    exact HE0 _ rfl
theorem kM_farOf_l6_w {X : jX} {d : Nat} {R : jR} {Q : Option Value → jS → Prop} {o : Nat} {h : jH} (hT : jTy R) (ho : jcl 176 o = 12) (hd : 1 ≤ (d + 1)) {s : Int32 × Int32} {x : Int32} (K : jlim (fM_farOf_l6 R o h) s = some x) (HE : jEx X (d + 1) jc_255 61 [none, none, some (.int x), none, none] [] (176, R, h) Q) :
    jEx X (d + 1) jc_255 6 [some (.ref o), none, some (.int s.1), some (.int s.2), none] [] (176, R, h) Q := by
  refine jlim_ok (G := fun s : Int32 × Int32 => jEx X (d + 1) jc_255 6 [some (.ref o), none, some (.int s.1), some (.int s.2), none] [] (176, R, h) Q) (GX := fun x : Int32 => jEx X (d + 1) jc_255 61 [none, none, some (.int x), none, none] [] (176, R, h) Q) (fun s z hz HL HE => ?_) K HE
  exact kM_farOf_l6_b hT ho hd hz HL HE
/-- AndGuestModel.farOf(I)I -/
noncomputable def fM_farOf (R : jR) (o : Nat) (v1 : Int32) (h : jH) : Option Int32 :=
  (Option.bind (jlim (fM_farOf_l6 R o h) (1 <<< (v1 &&& 31), 0)) (fun (x8 : Int32) =>
  some (x8 : Int32)))
theorem kM_farOf {X : jX} {d : Nat} {R : jR} {Q : Option Value → jS → Prop} {o : Nat} {v1 : Int32} {h : jH} (hT : jTy R) (ho : jcl 176 o = 12) (hd : 1 ≤ d) {z : Int32} (K : fM_farOf R o v1 h = some z) (HQ : Q (some (.int z)) (176, R, h)) :
    jCa X d 255 [.ref o, .int v1] (176, R, h) Q := by
  obtain ⟨d, rfl⟩ : ∃ d9, d = d9 + 1 := ⟨d - 1, by omega⟩
  unfold fM_farOf at K
  refine jCa_of (es := jc_255) (pl := [some (.ref o), some (.int v1), none, none, none]) (M := jm_255) rfl rfl rfl rfl ?_
  refine jx_next (pc := 0) (pc' := 1) rfl rfl ?_
  refine jx_next (pc := 1) (pc' := 2) rfl rfl ?_
  refine jx_next (pc := 2) (pc' := 3) rfl rfl ?_
  refine jx_stin (pc := 3) (p2 := [some (.ref o), some (.int v1), some (.int (1 <<< (v1 &&& 31))), none, none]) rfl (jlt rfl) rfl ?_
  refine jx_next (pc := 4) (pc' := 5) rfl rfl ?_
  refine jx_stin (pc := 5) (p2 := [some (.ref o), some (.int v1), some (.int (1 <<< (v1 &&& 31))), some (.int 0), none]) rfl (jlt rfl) rfl ?_
  refine jx_le (pl' := [some (.ref o), none, some (.int (1 <<< (v1 &&& 31))), some (.int 0), none]) (jle_v (jle_n (jle_v (jle_v (jle_n jle_nil))))) ?_
  obtain ⟨x8, hz_x8, K⟩ := Option.bind_eq_some_iff.mp K
  refine kM_farOf_l6_w hT ho hd hz_x8 ?_
  refine jx_next (pc := 61) (pc' := 62) rfl rfl ?_
  obtain rfl := Option.some.inj K
  exact jx_iret (pc := 62) rfl HQ
/-- AndGuestModel.far(I)I -/
noncomputable def fM_far (R : jR) (o : Nat) (v1 : Int32) (h : jH) : Option Int32 :=
  (Option.bind (fM_isGuest R o v1 h) (fun (z1 : Int32) =>
  (if z1 = 0 then
  some ((-1) : Int32)
  else
  (Option.bind (fM_farOf R o v1 h) (fun (z3 : Int32) =>
  some (z3 : Int32))))))
theorem kM_far {X : jX} {d : Nat} {R : jR} {Q : Option Value → jS → Prop} {o : Nat} {v1 : Int32} {h : jH} (hT : jTy R) (ho : jcl 176 o = 12) (hd : 2 ≤ d) {z : Int32} (K : fM_far R o v1 h = some z) (HQ : Q (some (.int z)) (176, R, h)) :
    jCa X d 254 [.ref o, .int v1] (176, R, h) Q := by
  obtain ⟨d, rfl⟩ : ∃ d9, d = d9 + 1 := ⟨d - 1, by omega⟩
  unfold fM_far at K
  refine jCa_of (es := jc_254) (pl := [some (.ref o), some (.int v1)]) (M := jm_254) rfl rfl rfl rfl ?_
  refine jx_next (pc := 0) (pc' := 1) rfl rfl ?_
  refine jx_next (pc := 1) (pc' := 2) rfl rfl ?_
  refine jx_callv (pc := 2) (o := o) (rest := []) rfl ⟨by decide, by decide⟩ rfl ho (Nat.le_of_ble_eq_true rfl) ?_
  obtain ⟨z1, hz_z1, K⟩ := Option.bind_eq_some_iff.mp K
  refine kM_isGuest hT ho (by omega) hz_z1 ?_
  refine jx_ifeq (pc := 5) rfl (fun hc2 => ?_) (fun hc2 => ?_)
  · replace K := (if_pos hc2).symm.trans K
    refine jx_next (pc := 16) (pc' := 17) rfl rfl ?_
    obtain rfl := Option.some.inj K
    exact jx_iret (pc := 17) rfl HQ
  · replace K := (if_neg hc2).symm.trans K
    refine jx_next (pc := 8) (pc' := 9) rfl rfl ?_
    refine jx_next (pc := 9) (pc' := 10) rfl rfl ?_
    refine jx_callv (pc := 10) (o := o) (rest := []) rfl ⟨by decide, by decide⟩ rfl ho (Nat.le_of_ble_eq_true rfl) ?_
    obtain ⟨z3, hz_z3, K⟩ := Option.bind_eq_some_iff.mp K
    refine kM_farOf hT ho (by omega) hz_z3 ?_
    refine jx_next (pc := 13) (pc' := 17) rfl rfl ?_
    obtain rfl := Option.some.inj K
    exact jx_iret (pc := 17) rfl HQ
noncomputable def fM_laysHeads_l2_b (R : jR) (o : Nat) (v1 : Int32) (h : jH) : Option ((Int32 × jH) ⊕ (jH)) :=
  (if 32 < v1 then
  some (.inr h)
  else
  (if jin v1 (jsh (R o 52)).2 then
  some (.inl (v1 + 1, jhL h (R o 52) v1.toNatClampNeg 0))
  else none))
noncomputable def fM_laysHeads_l2 (R : jR) (o : Nat) : (Int32 × jH) → Option ((Int32 × jH) ⊕ (jH)) :=
  fun (s : Int32 × jH) => fM_laysHeads_l2_b R o s.1 s.2
theorem kM_laysHeads_l2_b {X : jX} {d : Nat} {R : jR} {Q : Option Value → jS → Prop} {o : Nat} {v1 : Int32} {h : jH} (hT : jTy R) (ho : jcl 176 o = 12) (hd : 2 ≤ (d + 1)) {z : (Int32 × jH) ⊕ (jH)} (K : fM_laysHeads_l2_b R o v1 h = some z) (HL : ∀ s : Int32 × jH, z = .inl s → jEx X (d + 1) jc_257 2 [some (.ref o), some (.int s.1), none, none, none] [] (176, R, s.2) Q) (HE0 : ∀ x : jH, z = .inr x → jEx X (d + 1) jc_257 21 [some (.ref o), none, none, none, none] [] (176, R, x) Q) :
    jEx X (d + 1) jc_257 2 [some (.ref o), some (.int v1), none, none, none] [] (176, R, h) Q := by
  unfold fM_laysHeads_l2_b at K
  refine jx_next (pc := 2) (pc' := 3) rfl rfl ?_
  refine jx_next (pc := 3) (pc' := 5) rfl rfl ?_
  refine jx_icgt (pc := 5) rfl (fun hc1 => ?_) (fun hc1 => ?_)
  · replace K := (if_pos hc1).symm.trans K
    obtain rfl := Option.some.inj K
    refine jx_le (pl' := [some (.ref o), none, none, none, none]) (jle_v (jle_n (jle_n (jle_n (jle_n jle_nil))))) ?_
    exact HE0 _ rfl
  · replace K := (if_neg hc1).symm.trans K
    refine jx_next (pc := 8) (pc' := 9) rfl rfl ?_
    refine jx_getr (pc := 9) rfl ho ?_
    refine jx_next (pc := 12) (pc' := 13) rfl rfl ?_
    refine jx_next (pc := 13) (pc' := 14) rfl rfl ?_
    obtain ⟨hg2, K⟩ := jguard K
    refine jx_last (pc := 14) rfl (jtR hT ho (k := 52) (c := 21) rfl) hg2 ?_
    refine jx_inc (pc := 15) (x := v1) (p2 := [some (.ref o), some (.int (v1 + 1)), none, none, none]) rfl rfl (jlt rfl) rfl ?_
    refine jx_next (pc := 18) (pc' := 2) rfl rfl ?_
    obtain rfl := Option.some.inj K
    refine jx_le (pl' := [some (.ref o), some (.int (v1 + 1)), none, none, none]) (jle_v (jle_v (jle_n (jle_n (jle_n jle_nil))))) ?_
    exact HL _ rfl
theorem kM_laysHeads_l2_w {X : jX} {d : Nat} {R : jR} {Q : Option Value → jS → Prop} {o : Nat} (hT : jTy R) (ho : jcl 176 o = 12) (hd : 2 ≤ (d + 1)) {s : Int32 × jH} {x : jH} (K : jlim (fM_laysHeads_l2 R o) s = some x) (HE : jEx X (d + 1) jc_257 21 [some (.ref o), none, none, none, none] [] (176, R, x) Q) :
    jEx X (d + 1) jc_257 2 [some (.ref o), some (.int s.1), none, none, none] [] (176, R, s.2) Q := by
  refine jlim_ok (G := fun s : Int32 × jH => jEx X (d + 1) jc_257 2 [some (.ref o), some (.int s.1), none, none, none] [] (176, R, s.2) Q) (GX := fun x : jH => jEx X (d + 1) jc_257 21 [some (.ref o), none, none, none, none] [] (176, R, x) Q) (fun s z hz HL HE => ?_) K HE
  exact kM_laysHeads_l2_b hT ho hd hz HL HE
noncomputable def fM_laysHeads_l59_j105 (R : jR) (o : Nat) (v1 : Int32) (v2 : Int32) (v3 : Int32) (v4 : Int32) (s0 : Nat) (s1 : Int32) (s2 : Int64) (s3 : Int64) (h : jH) : Option ((Int32 × jH) ⊕ (jH)) :=
  (if jin s1 (jsh s0).2 then
  some (.inl (v4 + (-1), jhL h s0 s1.toNatClampNeg (s2 + s3)))
  else none)
theorem kM_laysHeads_l59_j105 {X : jX} {d : Nat} {R : jR} {Q : Option Value → jS → Prop} {o : Nat} {v1 : Int32} {v2 : Int32} {v3 : Int32} {v4 : Int32} {s0 : Nat} {s1 : Int32} {s2 : Int64} {s3 : Int64} {h : jH} (hT : jTy R) (ho : jcl 176 o = 12) (hs0 : jcl 176 s0 = 21) (hd : 2 ≤ (d + 1)) {z : (Int32 × jH) ⊕ (jH)} (K : fM_laysHeads_l59_j105 R o v1 v2 v3 v4 s0 s1 s2 s3 h = some z) (HL : ∀ s : Int32 × jH, z = .inl s → jEx X (d + 1) jc_257 59 [some (.ref o), some (.int v1), some (.int v2), some (.int v3), some (.int s.1)] [] (176, R, s.2) Q) (HE0 : ∀ x : jH, z = .inr x → jEx X (d + 1) jc_257 113 [some (.ref o), some (.int v1), none, none, none] [] (176, R, x) Q) :
    jEx X (d + 1) jc_257 105 [some (.ref o), some (.int v1), some (.int v2), some (.int v3), some (.int v4)] [.long s3, .long s2, .int s1, .ref s0] (176, R, h) Q := by
  unfold fM_laysHeads_l59_j105 at K
  refine jx_next (pc := 105) (pc' := 106) rfl rfl ?_
  obtain ⟨hg12, K⟩ := jguard K
  refine jx_last (pc := 106) rfl hs0 hg12 ?_
  refine jx_inc (pc := 107) (x := v4) (p2 := [some (.ref o), some (.int v1), some (.int v2), some (.int v3), some (.int (v4 + (-1)))]) rfl rfl (jlt rfl) rfl ?_
  refine jx_next (pc := 110) (pc' := 59) rfl rfl ?_
  obtain rfl := Option.some.inj K
  refine jx_le (pl' := [some (.ref o), some (.int v1), some (.int v2), some (.int v3), some (.int (v4 + (-1)))]) (jle_v (jle_v (jle_v (jle_v (jle_v jle_nil))))) ?_
  exact HL _ rfl
noncomputable def fM_laysHeads_l59_b (R : jR) (o : Nat) (v1 : Int32) (v2 : Int32) (v3 : Int32) (v4 : Int32) (h : jH) : Option ((Int32 × jH) ⊕ (jH)) :=
  (if v4 < 0 then
  some (.inr h)
  else
  (if jin v4 (jsh (R o 52)).2 then
  (if v4 < v3 then
  fM_laysHeads_l59_j105 R o v1 v2 v3 v4 (R o 52) v4 ((h.2 (R o 52) v4.toNatClampNeg) * ((10 - v2).toInt64)) 0 h
  else
  (if jin (v4 - v3) (jsh (R o 52)).2 then
  fM_laysHeads_l59_j105 R o v1 v2 v3 v4 (R o 52) v4 ((h.2 (R o 52) v4.toNatClampNeg) * ((10 - v2).toInt64)) ((h.2 (R o 52) (v4 - v3).toNatClampNeg) * v2.toInt64) h
  else none))
  else none))
noncomputable def fM_laysHeads_l59 (R : jR) (o : Nat) (v1 : Int32) (v2 : Int32) (v3 : Int32) : (Int32 × jH) → Option ((Int32 × jH) ⊕ (jH)) :=
  fun (s : Int32 × jH) => fM_laysHeads_l59_b R o v1 v2 v3 s.1 s.2
theorem kM_laysHeads_l59_b {X : jX} {d : Nat} {R : jR} {Q : Option Value → jS → Prop} {o : Nat} {v1 : Int32} {v2 : Int32} {v3 : Int32} {v4 : Int32} {h : jH} (hT : jTy R) (ho : jcl 176 o = 12) (hd : 2 ≤ (d + 1)) {z : (Int32 × jH) ⊕ (jH)} (K : fM_laysHeads_l59_b R o v1 v2 v3 v4 h = some z) (HL : ∀ s : Int32 × jH, z = .inl s → jEx X (d + 1) jc_257 59 [some (.ref o), some (.int v1), some (.int v2), some (.int v3), some (.int s.1)] [] (176, R, s.2) Q) (HE0 : ∀ x : jH, z = .inr x → jEx X (d + 1) jc_257 113 [some (.ref o), some (.int v1), none, none, none] [] (176, R, x) Q) :
    jEx X (d + 1) jc_257 59 [some (.ref o), some (.int v1), some (.int v2), some (.int v3), some (.int v4)] [] (176, R, h) Q := by
  unfold fM_laysHeads_l59_b at K
  refine jx_next (pc := 59) (pc' := 61) rfl rfl ?_
  refine jx_iflt (pc := 61) rfl (fun hc9 => ?_) (fun hc9 => ?_)
  · replace K := (if_pos hc9).symm.trans K
    obtain rfl := Option.some.inj K
    refine jx_le (pl' := [some (.ref o), some (.int v1), none, none, none]) (jle_v (jle_v (jle_n (jle_n (jle_n jle_nil))))) ?_
    exact HE0 _ rfl
  · replace K := (if_neg hc9).symm.trans K
    refine jx_next (pc := 64) (pc' := 65) rfl rfl ?_
    refine jx_getr (pc := 65) rfl ho ?_
    refine jx_next (pc := 68) (pc' := 70) rfl rfl ?_
    refine jx_next (pc := 70) (pc' := 71) rfl rfl ?_
    refine jx_getr (pc := 71) rfl ho ?_
    refine jx_next (pc := 74) (pc' := 76) rfl rfl ?_
    obtain ⟨hg10, K⟩ := jguard K
    refine jx_lald (pc := 76) rfl (jtR hT ho (k := 52) (c := 21) rfl) hg10 ?_
    refine jx_next (pc := 77) (pc' := 79) rfl rfl ?_
    refine jx_next (pc := 79) (pc' := 80) rfl rfl ?_
    refine jx_next (pc := 80) (pc' := 81) rfl rfl ?_
    refine jx_next (pc := 81) (pc' := 82) rfl rfl ?_
    refine jx_next (pc := 82) (pc' := 83) rfl rfl ?_
    refine jx_next (pc := 83) (pc' := 85) rfl rfl ?_
    refine jx_next (pc := 85) (pc' := 86) rfl rfl ?_
    refine jx_iclt (pc := 86) rfl (fun hc11 => ?_) (fun hc11 => ?_)
    · replace K := (if_pos hc11).symm.trans K
      refine jx_next (pc := 104) (pc' := 105) rfl rfl ?_
      refine jx_le (pl' := [some (.ref o), some (.int v1), some (.int v2), some (.int v3), some (.int v4)]) (jle_v (jle_v (jle_v (jle_v (jle_v jle_nil))))) ?_
      exact kM_laysHeads_l59_j105 hT ho (jtR hT ho (k := 52) (c := 21) rfl) hd K HL HE0
    · replace K := (if_neg hc11).symm.trans K
      refine jx_next (pc := 89) (pc' := 90) rfl rfl ?_
      refine jx_getr (pc := 90) rfl ho ?_
      refine jx_next (pc := 93) (pc' := 95) rfl rfl ?_
      refine jx_next (pc := 95) (pc' := 96) rfl rfl ?_
      refine jx_next (pc := 96) (pc' := 97) rfl rfl ?_
      obtain ⟨hg13, K⟩ := jguard K
      refine jx_lald (pc := 97) rfl (jtR hT ho (k := 52) (c := 21) rfl) hg13 ?_
      refine jx_next (pc := 98) (pc' := 99) rfl rfl ?_
      refine jx_next (pc := 99) (pc' := 100) rfl rfl ?_
      refine jx_next (pc := 100) (pc' := 101) rfl rfl ?_
      refine jx_next (pc := 101) (pc' := 105) rfl rfl ?_
      refine jx_le (pl' := [some (.ref o), some (.int v1), some (.int v2), some (.int v3), some (.int v4)]) (jle_v (jle_v (jle_v (jle_v (jle_v jle_nil))))) ?_
      exact kM_laysHeads_l59_j105 hT ho (jtR hT ho (k := 52) (c := 21) rfl) hd K HL HE0
theorem kM_laysHeads_l59_w {X : jX} {d : Nat} {R : jR} {Q : Option Value → jS → Prop} {o : Nat} {v1 : Int32} {v2 : Int32} {v3 : Int32} (hT : jTy R) (ho : jcl 176 o = 12) (hd : 2 ≤ (d + 1)) {s : Int32 × jH} {x : jH} (K : jlim (fM_laysHeads_l59 R o v1 v2 v3) s = some x) (HE : jEx X (d + 1) jc_257 113 [some (.ref o), some (.int v1), none, none, none] [] (176, R, x) Q) :
    jEx X (d + 1) jc_257 59 [some (.ref o), some (.int v1), some (.int v2), some (.int v3), some (.int s.1)] [] (176, R, s.2) Q := by
  refine jlim_ok (G := fun s : Int32 × jH => jEx X (d + 1) jc_257 59 [some (.ref o), some (.int v1), some (.int v2), some (.int v3), some (.int s.1)] [] (176, R, s.2) Q) (GX := fun x : jH => jEx X (d + 1) jc_257 113 [some (.ref o), some (.int v1), none, none, none] [] (176, R, x) Q) (fun s z hz HL HE => ?_) K HE
  exact kM_laysHeads_l59_b hT ho hd hz HL HE
noncomputable def fM_laysHeads_l35_b (R : jR) (o : Nat) (v1 : Int32) (h : jH) : Option ((Int32 × jH) ⊕ (jH)) :=
  (Option.bind (fM_guestMany R o h) (fun (z5 : Int32) =>
  (if v1 < z5 then
  (Option.bind (fM_tensOf R o v1 h) (fun (z7 : Int32) =>
  (Option.bind (fM_sizeOf R o v1 h) (fun (z8 : Int32) =>
  (Option.bind (jlim (fM_laysHeads_l59 R o v1 z7 z8) (32, h)) (fun (x14 : jH) =>
  some (.inl (v1 + 1, jhL x14 o 53 ((x14.2 o 53) * 10)))))))))
  else
  some (.inr h))))
noncomputable def fM_laysHeads_l35 (R : jR) (o : Nat) : (Int32 × jH) → Option ((Int32 × jH) ⊕ (jH)) :=
  fun (s : Int32 × jH) => fM_laysHeads_l35_b R o s.1 s.2
theorem kM_laysHeads_l35_b {X : jX} {d : Nat} {R : jR} {Q : Option Value → jS → Prop} {o : Nat} {v1 : Int32} {h : jH} (hT : jTy R) (ho : jcl 176 o = 12) (hd : 2 ≤ (d + 1)) {z : (Int32 × jH) ⊕ (jH)} (K : fM_laysHeads_l35_b R o v1 h = some z) (HL : ∀ s : Int32 × jH, z = .inl s → jEx X (d + 1) jc_257 35 [some (.ref o), some (.int s.1), none, none, none] [] (176, R, s.2) Q) (HE0 : ∀ x : jH, z = .inr x → jEx X (d + 1) jc_257 131 [none, none, none, none, none] [] (176, R, x) Q) :
    jEx X (d + 1) jc_257 35 [some (.ref o), some (.int v1), none, none, none] [] (176, R, h) Q := by
  unfold fM_laysHeads_l35_b at K
  refine jx_next (pc := 35) (pc' := 36) rfl rfl ?_
  refine jx_next (pc := 36) (pc' := 37) rfl rfl ?_
  refine jx_callv (pc := 37) (o := o) (rest := [.int v1]) rfl ⟨by decide, by decide⟩ rfl ho (Nat.le_of_ble_eq_true rfl) ?_
  obtain ⟨z5, hz_z5, K⟩ := Option.bind_eq_some_iff.mp K
  refine kM_guestMany hT ho (by omega) hz_z5 ?_
  refine jx_icge (pc := 40) rfl (fun hc6 => ?_) (fun hc6 => ?_)
  · replace K := (if_pos hc6).symm.trans K
    refine jx_next (pc := 43) (pc' := 44) rfl rfl ?_
    refine jx_next (pc := 44) (pc' := 45) rfl rfl ?_
    refine jx_callv (pc := 45) (o := o) (rest := []) rfl ⟨by decide, by decide⟩ rfl ho (Nat.le_of_ble_eq_true rfl) ?_
    obtain ⟨z7, hz_z7, K⟩ := Option.bind_eq_some_iff.mp K
    refine kM_tensOf hT ho (by omega) hz_z7 ?_
    refine jx_stin (pc := 48) (p2 := [some (.ref o), some (.int v1), some (.int z7), none, none]) rfl (jlt rfl) rfl ?_
    refine jx_next (pc := 49) (pc' := 50) rfl rfl ?_
    refine jx_next (pc := 50) (pc' := 51) rfl rfl ?_
    refine jx_callv (pc := 51) (o := o) (rest := []) rfl ⟨by decide, by decide⟩ rfl ho (Nat.le_of_ble_eq_true rfl) ?_
    obtain ⟨z8, hz_z8, K⟩ := Option.bind_eq_some_iff.mp K
    refine kM_sizeOf hT ho (by omega) hz_z8 ?_
    refine jx_stin (pc := 54) (p2 := [some (.ref o), some (.int v1), some (.int z7), some (.int z8), none]) rfl (jlt rfl) rfl ?_
    refine jx_next (pc := 55) (pc' := 57) rfl rfl ?_
    refine jx_sti (pc := 57) (p2 := [some (.ref o), some (.int v1), some (.int z7), some (.int z8), some (.int 32)]) rfl (jlt rfl) rfl ?_
    refine jx_le (pl' := [some (.ref o), some (.int v1), some (.int z7), some (.int z8), some (.int 32)]) (jle_v (jle_v (jle_v (jle_v (jle_v jle_nil))))) ?_
    obtain ⟨x14, hz_x14, K⟩ := Option.bind_eq_some_iff.mp K
    refine kM_laysHeads_l59_w hT ho hd hz_x14 ?_
    refine jx_next (pc := 113) (pc' := 114) rfl rfl ?_
    refine jx_next (pc := 114) (pc' := 115) rfl rfl ?_
    refine jx_getl (pc := 115) rfl ho ?_
    refine jx_next (pc := 118) (pc' := 121) rfl rfl ?_
    refine jx_next (pc := 121) (pc' := 122) rfl rfl ?_
    refine jx_putl (pc := 122) rfl ho ?_
    refine jx_inc (pc := 125) (x := v1) (p2 := [some (.ref o), some (.int (v1 + 1)), none, none, none]) rfl rfl (jlt rfl) rfl ?_
    refine jx_next (pc := 128) (pc' := 35) rfl rfl ?_
    obtain rfl := Option.some.inj K
    refine jx_le (pl' := [some (.ref o), some (.int (v1 + 1)), none, none, none]) (jle_v (jle_v (jle_n (jle_n (jle_n jle_nil))))) ?_
    exact HL _ rfl
  · replace K := (if_neg hc6).symm.trans K
    obtain rfl := Option.some.inj K
    refine jx_le (pl' := [none, none, none, none, none]) (jle_n (jle_n (jle_n (jle_n (jle_n jle_nil))))) ?_
    exact HE0 _ rfl
theorem kM_laysHeads_l35_w {X : jX} {d : Nat} {R : jR} {Q : Option Value → jS → Prop} {o : Nat} (hT : jTy R) (ho : jcl 176 o = 12) (hd : 2 ≤ (d + 1)) {s : Int32 × jH} {x : jH} (K : jlim (fM_laysHeads_l35 R o) s = some x) (HE : jEx X (d + 1) jc_257 131 [none, none, none, none, none] [] (176, R, x) Q) :
    jEx X (d + 1) jc_257 35 [some (.ref o), some (.int s.1), none, none, none] [] (176, R, s.2) Q := by
  refine jlim_ok (G := fun s : Int32 × jH => jEx X (d + 1) jc_257 35 [some (.ref o), some (.int s.1), none, none, none] [] (176, R, s.2) Q) (GX := fun x : jH => jEx X (d + 1) jc_257 131 [none, none, none, none, none] [] (176, R, x) Q) (fun s z hz HL HE => ?_) K HE
  exact kM_laysHeads_l35_b hT ho hd hz HL HE
/-- AndGuestModel.laysHeads()V -/
noncomputable def fM_laysHeads (R : jR) (o : Nat) (h : jH) : Option jH :=
  (Option.bind (jlim (fM_laysHeads_l2 R o) (1, h)) (fun (x3 : jH) =>
  (if jin 0 (jsh (R o 52)).2 then
  (Option.bind (jlim (fM_laysHeads_l35 R o) (0, jhL (jhL x3 (R o 52) (0 : Int32).toNatClampNeg 1) o 53 1)) (fun (x15 : jH) =>
  some x15))
  else none)))
theorem kM_laysHeads {X : jX} {d : Nat} {R : jR} {Q : Option Value → jS → Prop} {o : Nat} {h : jH} (hT : jTy R) (ho : jcl 176 o = 12) (hd : 2 ≤ d) {z : jH} (K : fM_laysHeads R o h = some z) (HQ : Q none (176, R, z)) :
    jCa X d 257 [.ref o] (176, R, h) Q := by
  obtain ⟨d, rfl⟩ : ∃ d9, d = d9 + 1 := ⟨d - 1, by omega⟩
  unfold fM_laysHeads at K
  refine jCa_of (es := jc_257) (pl := [some (.ref o), none, none, none, none]) (M := jm_257) rfl rfl rfl rfl ?_
  refine jx_next (pc := 0) (pc' := 1) rfl rfl ?_
  refine jx_stin (pc := 1) (p2 := [some (.ref o), some (.int 1), none, none, none]) rfl (jlt rfl) rfl ?_
  refine jx_le (pl' := [some (.ref o), some (.int 1), none, none, none]) (jle_v (jle_v (jle_n (jle_n (jle_n jle_nil))))) ?_
  obtain ⟨x3, hz_x3, K⟩ := Option.bind_eq_some_iff.mp K
  refine kM_laysHeads_l2_w hT ho hd hz_x3 ?_
  refine jx_next (pc := 21) (pc' := 22) rfl rfl ?_
  refine jx_getr (pc := 22) rfl ho ?_
  refine jx_next (pc := 25) (pc' := 26) rfl rfl ?_
  refine jx_next (pc := 26) (pc' := 27) rfl rfl ?_
  obtain ⟨hg4, K⟩ := jguard K
  refine jx_last (pc := 27) rfl (jtR hT ho (k := 52) (c := 21) rfl) hg4 ?_
  refine jx_next (pc := 28) (pc' := 29) rfl rfl ?_
  refine jx_next (pc := 29) (pc' := 30) rfl rfl ?_
  refine jx_putl (pc := 30) rfl ho ?_
  refine jx_next (pc := 33) (pc' := 34) rfl rfl ?_
  refine jx_stin (pc := 34) (p2 := [some (.ref o), some (.int 0), none, none, none]) rfl (jlt rfl) rfl ?_
  refine jx_le (pl' := [some (.ref o), some (.int 0), none, none, none]) (jle_v (jle_v (jle_n (jle_n (jle_n jle_nil))))) ?_
  obtain ⟨x15, hz_x15, K⟩ := Option.bind_eq_some_iff.mp K
  refine kM_laysHeads_l35_w hT ho hd hz_x15 ?_
  obtain rfl := Option.some.inj K
  exact jx_ret (pc := 131) rfl rfl HQ
/-- AndGuestModel.odds(I)I -/
noncomputable def fM_odds (R : jR) (o : Nat) (v1 : Int32) (h : jH) : Option (Int32 × jH) :=
  (if (h.1 o 48) = 0 then
  some ((-1), h)
  else
  (if (fM_isIn v1.toInt64 0 32) = 0 then
  some ((-1), h)
  else
  (Option.bind (fM_laysHeads R o h) (fun (z3 : jH) =>
  (if jin v1 (jsh (R o 52)).2 then
  (if ¬ (z3.2 o 53) = 0 then
  some ((((z3.2 (R o 52) v1.toNatClampNeg) * 1000000) / (z3.2 o 53)).toInt32, z3)
  else none)
  else none)))))
theorem kM_odds {X : jX} {d : Nat} {R : jR} {Q : Option Value → jS → Prop} {o : Nat} {v1 : Int32} {h : jH} (hT : jTy R) (ho : jcl 176 o = 12) (hd : 3 ≤ d) {z : Int32 × jH} (K : fM_odds R o v1 h = some z) (HQ : Q (some (.int z.1)) (176, R, z.2)) :
    jCa X d 256 [.ref o, .int v1] (176, R, h) Q := by
  obtain ⟨d, rfl⟩ : ∃ d9, d = d9 + 1 := ⟨d - 1, by omega⟩
  unfold fM_odds at K
  refine jCa_of (es := jc_256) (pl := [some (.ref o), some (.int v1)]) (M := jm_256) rfl rfl rfl rfl ?_
  refine jx_next (pc := 0) (pc' := 1) rfl rfl ?_
  refine jx_getz (pc := 1) rfl ho ?_
  refine jx_ifeq (pc := 4) rfl (fun hc1 => ?_) (fun hc1 => ?_)
  · replace K := (if_pos hc1).symm.trans K
    refine jx_next (pc := 19) (pc' := 20) rfl rfl ?_
    obtain rfl := Option.some.inj K
    exact jx_iret (pc := 20) rfl HQ
  · replace K := (if_neg hc1).symm.trans K
    refine jx_next (pc := 7) (pc' := 8) rfl rfl ?_
    refine jx_next (pc := 8) (pc' := 9) rfl rfl ?_
    refine jx_next (pc := 9) (pc' := 10) rfl rfl ?_
    refine jx_next (pc := 10) (pc' := 13) rfl rfl ?_
    refine jx_calls (pc := 13) rfl (Nat.le_of_ble_eq_true rfl) (Nat.le_of_ble_eq_true rfl) ?_
    refine kM_isIn  (by omega) rfl ?_
    refine jx_ifne (pc := 16) rfl (fun hc2 => ?_) (fun hc2 => ?_)
    · replace K := (if_pos hc2).symm.trans K
      refine jx_next (pc := 19) (pc' := 20) rfl rfl ?_
      obtain rfl := Option.some.inj K
      exact jx_iret (pc := 20) rfl HQ
    · replace K := (if_neg hc2).symm.trans K
      refine jx_next (pc := 21) (pc' := 22) rfl rfl ?_
      refine jx_callv (pc := 22) (o := o) (rest := []) rfl ⟨by decide, by decide⟩ rfl ho (Nat.le_of_ble_eq_true rfl) ?_
      obtain ⟨z3, hz_z3, K⟩ := Option.bind_eq_some_iff.mp K
      refine kM_laysHeads hT ho (by omega) hz_z3 ?_
      refine jx_next (pc := 25) (pc' := 26) rfl rfl ?_
      refine jx_getr (pc := 26) rfl ho ?_
      refine jx_next (pc := 29) (pc' := 30) rfl rfl ?_
      obtain ⟨hg4, K⟩ := jguard K
      refine jx_lald (pc := 30) rfl (jtR hT ho (k := 52) (c := 21) rfl) hg4 ?_
      refine jx_next (pc := 31) (pc' := 34) rfl rfl ?_
      refine jx_next (pc := 34) (pc' := 35) rfl rfl ?_
      refine jx_next (pc := 35) (pc' := 36) rfl rfl ?_
      refine jx_getl (pc := 36) rfl ho ?_
      obtain ⟨hg, K⟩ := jguard K
      refine jx_ldiv (pc := 39) rfl hg ?_
      refine jx_next (pc := 40) (pc' := 41) rfl rfl ?_
      obtain rfl := Option.some.inj K
      exact jx_iret (pc := 41) rfl HQ
noncomputable def fM_above_l32_b (R : jR) (o : Nat) (v2 : Int64) (v4 : Int32) (h : jH) : Option ((Int64 × Int32) ⊕ (Int64)) :=
  (if 32 < v4 then
  some (.inr v2)
  else
  (if jin v4 (jsh (R o 52)).2 then
  some (.inl (v2 + (h.2 (R o 52) v4.toNatClampNeg), v4 + 1))
  else none))
noncomputable def fM_above_l32 (R : jR) (o : Nat) (h : jH) : (Int64 × Int32) → Option ((Int64 × Int32) ⊕ (Int64)) :=
  fun (s : Int64 × Int32) => fM_above_l32_b R o s.1 s.2 h
theorem kM_above_l32_b {X : jX} {d : Nat} {R : jR} {Q : Option Value → jS → Prop} {o : Nat} {v2 : Int64} {v4 : Int32} {h : jH} (hT : jTy R) (ho : jcl 176 o = 12) (hd : 3 ≤ (d + 1)) {z : (Int64 × Int32) ⊕ (Int64)} (K : fM_above_l32_b R o v2 v4 h = some z) (HL : ∀ s : Int64 × Int32, z = .inl s → jEx X (d + 1) jc_258 32 [some (.ref o), none, some (.long s.1), none, some (.int s.2)] [] (176, R, h) Q) (HE0 : ∀ x : Int64, z = .inr x → jEx X (d + 1) jc_258 55 [some (.ref o), none, some (.long x), none, none] [] (176, R, h) Q) :
    jEx X (d + 1) jc_258 32 [some (.ref o), none, some (.long v2), none, some (.int v4)] [] (176, R, h) Q := by
  unfold fM_above_l32_b at K
  refine jx_next (pc := 32) (pc' := 34) rfl rfl ?_
  refine jx_next (pc := 34) (pc' := 36) rfl rfl ?_
  refine jx_icgt (pc := 36) rfl (fun hc4 => ?_) (fun hc4 => ?_)
  · replace K := (if_pos hc4).symm.trans K
    obtain rfl := Option.some.inj K
    refine jx_le (pl' := [some (.ref o), none, some (.long v2), none, none]) (jle_v (jle_n (jle_v (jle_n (jle_n jle_nil))))) ?_
    exact HE0 _ rfl
  · replace K := (if_neg hc4).symm.trans K
    refine jx_next (pc := 39) (pc' := 40) rfl rfl ?_
    refine jx_next (pc := 40) (pc' := 41) rfl rfl ?_
    refine jx_getr (pc := 41) rfl ho ?_
    refine jx_next (pc := 44) (pc' := 46) rfl rfl ?_
    obtain ⟨hg5, K⟩ := jguard K
    refine jx_lald (pc := 46) rfl (jtR hT ho (k := 52) (c := 21) rfl) hg5 ?_
    refine jx_next (pc := 47) (pc' := 48) rfl rfl ?_
    refine jx_stln (pc := 48) (p2 := [some (.ref o), none, some (.long (v2 + (h.2 (R o 52) v4.toNatClampNeg))), none, some (.int v4)]) rfl (jlt rfl) rfl ?_
    refine jx_inc (pc := 49) (x := v4) (p2 := [some (.ref o), none, some (.long (v2 + (h.2 (R o 52) v4.toNatClampNeg))), none, some (.int (v4 + 1))]) rfl rfl (jlt rfl) rfl ?_
    refine jx_next (pc := 52) (pc' := 32) rfl rfl ?_
    obtain rfl := Option.some.inj K
    refine jx_le (pl' := [some (.ref o), none, some (.long (v2 + (h.2 (R o 52) v4.toNatClampNeg))), none, some (.int (v4 + 1))]) (jle_v (jle_n (jle_v (jle_n (jle_v jle_nil))))) ?_
    exact HL _ rfl
theorem kM_above_l32_w {X : jX} {d : Nat} {R : jR} {Q : Option Value → jS → Prop} {o : Nat} {h : jH} (hT : jTy R) (ho : jcl 176 o = 12) (hd : 3 ≤ (d + 1)) {s : Int64 × Int32} {x : Int64} (K : jlim (fM_above_l32 R o h) s = some x) (HE : jEx X (d + 1) jc_258 55 [some (.ref o), none, some (.long x), none, none] [] (176, R, h) Q) :
    jEx X (d + 1) jc_258 32 [some (.ref o), none, some (.long s.1), none, some (.int s.2)] [] (176, R, h) Q := by
  refine jlim_ok (G := fun s : Int64 × Int32 => jEx X (d + 1) jc_258 32 [some (.ref o), none, some (.long s.1), none, some (.int s.2)] [] (176, R, h) Q) (GX := fun x : Int64 => jEx X (d + 1) jc_258 55 [some (.ref o), none, some (.long x), none, none] [] (176, R, h) Q) (fun s z hz HL HE => ?_) K HE
  exact kM_above_l32_b hT ho hd hz HL HE
/-- AndGuestModel.above(I)I -/
noncomputable def fM_above (R : jR) (o : Nat) (v1 : Int32) (h : jH) : Option (Int32 × jH) :=
  (if (h.1 o 48) = 0 then
  some ((-1), h)
  else
  (if (fM_isIn v1.toInt64 0 32) = 0 then
  some ((-1), h)
  else
  (Option.bind (fM_laysHeads R o h) (fun (z3 : jH) =>
  (Option.bind (jlim (fM_above_l32 R o z3) (0, v1 + 1)) (fun (x6 : Int64) =>
  (if ¬ (z3.2 o 53) = 0 then
  some (((x6 * 1000000) / (z3.2 o 53)).toInt32, z3)
  else none)))))))
theorem kM_above {X : jX} {d : Nat} {R : jR} {Q : Option Value → jS → Prop} {o : Nat} {v1 : Int32} {h : jH} (hT : jTy R) (ho : jcl 176 o = 12) (hd : 3 ≤ d) {z : Int32 × jH} (K : fM_above R o v1 h = some z) (HQ : Q (some (.int z.1)) (176, R, z.2)) :
    jCa X d 258 [.ref o, .int v1] (176, R, h) Q := by
  obtain ⟨d, rfl⟩ : ∃ d9, d = d9 + 1 := ⟨d - 1, by omega⟩
  unfold fM_above at K
  refine jCa_of (es := jc_258) (pl := [some (.ref o), some (.int v1), none, none, none]) (M := jm_258) rfl rfl rfl rfl ?_
  refine jx_next (pc := 0) (pc' := 1) rfl rfl ?_
  refine jx_getz (pc := 1) rfl ho ?_
  refine jx_ifeq (pc := 4) rfl (fun hc1 => ?_) (fun hc1 => ?_)
  · replace K := (if_pos hc1).symm.trans K
    refine jx_next (pc := 19) (pc' := 20) rfl rfl ?_
    obtain rfl := Option.some.inj K
    exact jx_iret (pc := 20) rfl HQ
  · replace K := (if_neg hc1).symm.trans K
    refine jx_next (pc := 7) (pc' := 8) rfl rfl ?_
    refine jx_next (pc := 8) (pc' := 9) rfl rfl ?_
    refine jx_next (pc := 9) (pc' := 10) rfl rfl ?_
    refine jx_next (pc := 10) (pc' := 13) rfl rfl ?_
    refine jx_calls (pc := 13) rfl (Nat.le_of_ble_eq_true rfl) (Nat.le_of_ble_eq_true rfl) ?_
    refine kM_isIn  (by omega) rfl ?_
    refine jx_ifne (pc := 16) rfl (fun hc2 => ?_) (fun hc2 => ?_)
    · replace K := (if_pos hc2).symm.trans K
      refine jx_next (pc := 19) (pc' := 20) rfl rfl ?_
      obtain rfl := Option.some.inj K
      exact jx_iret (pc := 20) rfl HQ
    · replace K := (if_neg hc2).symm.trans K
      refine jx_next (pc := 21) (pc' := 22) rfl rfl ?_
      refine jx_callv (pc := 22) (o := o) (rest := []) rfl ⟨by decide, by decide⟩ rfl ho (Nat.le_of_ble_eq_true rfl) ?_
      obtain ⟨z3, hz_z3, K⟩ := Option.bind_eq_some_iff.mp K
      refine kM_laysHeads hT ho (by omega) hz_z3 ?_
      refine jx_next (pc := 25) (pc' := 26) rfl rfl ?_
      refine jx_stln (pc := 26) (p2 := [some (.ref o), some (.int v1), some (.long 0), none, none]) rfl (jlt rfl) rfl ?_
      refine jx_next (pc := 27) (pc' := 28) rfl rfl ?_
      refine jx_next (pc := 28) (pc' := 29) rfl rfl ?_
      refine jx_next (pc := 29) (pc' := 30) rfl rfl ?_
      refine jx_sti (pc := 30) (p2 := [some (.ref o), some (.int v1), some (.long 0), none, some (.int (v1 + 1))]) rfl (jlt rfl) rfl ?_
      refine jx_le (pl' := [some (.ref o), none, some (.long 0), none, some (.int (v1 + 1))]) (jle_v (jle_n (jle_v (jle_n (jle_v jle_nil))))) ?_
      obtain ⟨x6, hz_x6, K⟩ := Option.bind_eq_some_iff.mp K
      refine kM_above_l32_w hT ho hd hz_x6 ?_
      refine jx_next (pc := 55) (pc' := 56) rfl rfl ?_
      refine jx_next (pc := 56) (pc' := 59) rfl rfl ?_
      refine jx_next (pc := 59) (pc' := 60) rfl rfl ?_
      refine jx_next (pc := 60) (pc' := 61) rfl rfl ?_
      refine jx_getl (pc := 61) rfl ho ?_
      obtain ⟨hg, K⟩ := jguard K
      refine jx_ldiv (pc := 64) rfl hg ?_
      refine jx_next (pc := 65) (pc' := 66) rfl rfl ?_
      obtain rfl := Option.some.inj K
      exact jx_iret (pc := 66) rfl HQ
noncomputable def fM_answers_l40_b (R : jR) (o : Nat) (v1 : Int32) (v2 : Int32) (v3 : Int64) (v5 : Int32) (h : jH) : Option ((Int32 × jH) ⊕ (jH)) :=
  (if 8 < v5 then
  some (.inr h)
  else
  (if jin v5 (jsh (R o 54)).2 then
  some (.inl (v5 + 1, jhL h (R o 54) v5.toNatClampNeg 0))
  else none))
noncomputable def fM_answers_l40 (R : jR) (o : Nat) (v1 : Int32) (v2 : Int32) (v3 : Int64) : (Int32 × jH) → Option ((Int32 × jH) ⊕ (jH)) :=
  fun (s : Int32 × jH) => fM_answers_l40_b R o v1 v2 v3 s.1 s.2
theorem kM_answers_l40_b {X : jX} {d : Nat} {R : jR} {Q : Option Value → jS → Prop} {o : Nat} {v1 : Int32} {v2 : Int32} {v3 : Int64} {v5 : Int32} {h : jH} (hT : jTy R) (ho : jcl 176 o = 12) (hd : 2 ≤ (d + 1)) {z : (Int32 × jH) ⊕ (jH)} (K : fM_answers_l40_b R o v1 v2 v3 v5 h = some z) (HL : ∀ s : Int32 × jH, z = .inl s → jEx X (d + 1) jc_259 40 [some (.ref o), some (.int v1), some (.int v2), some (.long v3), none, some (.int s.1), none, none, none] [] (176, R, s.2) Q) (HE0 : ∀ x : jH, z = .inr x → jEx X (d + 1) jc_259 61 [some (.ref o), some (.int v1), some (.int v2), some (.long v3), none, none, none, none, none] [] (176, R, x) Q) :
    jEx X (d + 1) jc_259 40 [some (.ref o), some (.int v1), some (.int v2), some (.long v3), none, some (.int v5), none, none, none] [] (176, R, h) Q := by
  unfold fM_answers_l40_b at K
  refine jx_next (pc := 40) (pc' := 42) rfl rfl ?_
  refine jx_next (pc := 42) (pc' := 44) rfl rfl ?_
  refine jx_icgt (pc := 44) rfl (fun hc5 => ?_) (fun hc5 => ?_)
  · replace K := (if_pos hc5).symm.trans K
    obtain rfl := Option.some.inj K
    refine jx_le (pl' := [some (.ref o), some (.int v1), some (.int v2), some (.long v3), none, none, none, none, none]) (jle_v (jle_v (jle_v (jle_v (jle_n (jle_n (jle_n (jle_n (jle_n jle_nil))))))))) ?_
    exact HE0 _ rfl
  · replace K := (if_neg hc5).symm.trans K
    refine jx_next (pc := 47) (pc' := 48) rfl rfl ?_
    refine jx_getr (pc := 48) rfl ho ?_
    refine jx_next (pc := 51) (pc' := 53) rfl rfl ?_
    refine jx_next (pc := 53) (pc' := 54) rfl rfl ?_
    obtain ⟨hg6, K⟩ := jguard K
    refine jx_last (pc := 54) rfl (jtR hT ho (k := 54) (c := 21) rfl) hg6 ?_
    refine jx_inc (pc := 55) (x := v5) (p2 := [some (.ref o), some (.int v1), some (.int v2), some (.long v3), none, some (.int (v5 + 1)), none, none, none]) rfl rfl (jlt rfl) rfl ?_
    refine jx_next (pc := 58) (pc' := 40) rfl rfl ?_
    obtain rfl := Option.some.inj K
    refine jx_le (pl' := [some (.ref o), some (.int v1), some (.int v2), some (.long v3), none, some (.int (v5 + 1)), none, none, none]) (jle_v (jle_v (jle_v (jle_v (jle_n (jle_v (jle_n (jle_n (jle_n jle_nil))))))))) ?_
    exact HL _ rfl
theorem kM_answers_l40_w {X : jX} {d : Nat} {R : jR} {Q : Option Value → jS → Prop} {o : Nat} {v1 : Int32} {v2 : Int32} {v3 : Int64} (hT : jTy R) (ho : jcl 176 o = 12) (hd : 2 ≤ (d + 1)) {s : Int32 × jH} {x : jH} (K : jlim (fM_answers_l40 R o v1 v2 v3) s = some x) (HE : jEx X (d + 1) jc_259 61 [some (.ref o), some (.int v1), some (.int v2), some (.long v3), none, none, none, none, none] [] (176, R, x) Q) :
    jEx X (d + 1) jc_259 40 [some (.ref o), some (.int v1), some (.int v2), some (.long v3), none, some (.int s.1), none, none, none] [] (176, R, s.2) Q := by
  refine jlim_ok (G := fun s : Int32 × jH => jEx X (d + 1) jc_259 40 [some (.ref o), some (.int v1), some (.int v2), some (.long v3), none, some (.int s.1), none, none, none] [] (176, R, s.2) Q) (GX := fun x : jH => jEx X (d + 1) jc_259 61 [some (.ref o), some (.int v1), some (.int v2), some (.long v3), none, none, none, none, none] [] (176, R, x) Q) (fun s z hz HL HE => ?_) K HE
  exact kM_answers_l40_b hT ho hd hz HL HE
noncomputable def fM_answers_l77_j122 (R : jR) (o : Nat) (v1 : Int32) (v2 : Int32) (v3 : Int64) (v5 : Int32) (v6 : Int32) (s0 : Nat) (s1 : Int32) (s2 : Int64) (s3 : Int64) (h : jH) : Option ((Int32 × jH) ⊕ (jH)) :=
  (if jin s1 (jsh s0).2 then
  some (.inl (v6 + (-1), jhL h s0 s1.toNatClampNeg (s2 + s3)))
  else none)
theorem kM_answers_l77_j122 {X : jX} {d : Nat} {R : jR} {Q : Option Value → jS → Prop} {o : Nat} {v1 : Int32} {v2 : Int32} {v3 : Int64} {v5 : Int32} {v6 : Int32} {s0 : Nat} {s1 : Int32} {s2 : Int64} {s3 : Int64} {h : jH} (hT : jTy R) (ho : jcl 176 o = 12) (hs0 : jcl 176 s0 = 21) (hd : 2 ≤ (d + 1)) {z : (Int32 × jH) ⊕ (jH)} (K : fM_answers_l77_j122 R o v1 v2 v3 v5 v6 s0 s1 s2 s3 h = some z) (HL : ∀ s : Int32 × jH, z = .inl s → jEx X (d + 1) jc_259 77 [some (.ref o), some (.int v1), some (.int v2), some (.long v3), none, some (.int v5), some (.int s.1), none, none] [] (176, R, s.2) Q) (HE0 : ∀ x : jH, z = .inr x → jEx X (d + 1) jc_259 130 [some (.ref o), some (.int v1), some (.int v2), some (.long v3), none, some (.int v5), none, none, none] [] (176, R, x) Q) :
    jEx X (d + 1) jc_259 122 [some (.ref o), some (.int v1), some (.int v2), some (.long v3), none, some (.int v5), some (.int v6), none, none] [.long s3, .long s2, .int s1, .ref s0] (176, R, h) Q := by
  unfold fM_answers_l77_j122 at K
  refine jx_next (pc := 122) (pc' := 123) rfl rfl ?_
  obtain ⟨hg14, K⟩ := jguard K
  refine jx_last (pc := 123) rfl hs0 hg14 ?_
  refine jx_inc (pc := 124) (x := v6) (p2 := [some (.ref o), some (.int v1), some (.int v2), some (.long v3), none, some (.int v5), some (.int (v6 + (-1))), none, none]) rfl rfl (jlt rfl) rfl ?_
  refine jx_next (pc := 127) (pc' := 77) rfl rfl ?_
  obtain rfl := Option.some.inj K
  refine jx_le (pl' := [some (.ref o), some (.int v1), some (.int v2), some (.long v3), none, some (.int v5), some (.int (v6 + (-1))), none, none]) (jle_v (jle_v (jle_v (jle_v (jle_n (jle_v (jle_v (jle_n (jle_n jle_nil))))))))) ?_
  exact HL _ rfl
noncomputable def fM_answers_l77_b (R : jR) (o : Nat) (v1 : Int32) (v2 : Int32) (v3 : Int64) (v5 : Int32) (v6 : Int32) (h : jH) : Option ((Int32 × jH) ⊕ (jH)) :=
  (if v6 < 0 then
  some (.inr h)
  else
  (if jin v6 (jsh (R o 54)).2 then
  (if 0 < v6 then
  (if jin (v6 - 1) (jsh (R o 54)).2 then
  fM_answers_l77_j122 R o v1 v2 v3 v5 v6 (R o 54) v6 ((h.2 (R o 54) v6.toNatClampNeg) * ((100 - v2).toInt64)) ((h.2 (R o 54) (v6 - 1).toNatClampNeg) * v2.toInt64) h
  else none)
  else
  fM_answers_l77_j122 R o v1 v2 v3 v5 v6 (R o 54) v6 ((h.2 (R o 54) v6.toNatClampNeg) * ((100 - v2).toInt64)) 0 h)
  else none))
noncomputable def fM_answers_l77 (R : jR) (o : Nat) (v1 : Int32) (v2 : Int32) (v3 : Int64) (v5 : Int32) : (Int32 × jH) → Option ((Int32 × jH) ⊕ (jH)) :=
  fun (s : Int32 × jH) => fM_answers_l77_b R o v1 v2 v3 v5 s.1 s.2
theorem kM_answers_l77_b {X : jX} {d : Nat} {R : jR} {Q : Option Value → jS → Prop} {o : Nat} {v1 : Int32} {v2 : Int32} {v3 : Int64} {v5 : Int32} {v6 : Int32} {h : jH} (hT : jTy R) (ho : jcl 176 o = 12) (hd : 2 ≤ (d + 1)) {z : (Int32 × jH) ⊕ (jH)} (K : fM_answers_l77_b R o v1 v2 v3 v5 v6 h = some z) (HL : ∀ s : Int32 × jH, z = .inl s → jEx X (d + 1) jc_259 77 [some (.ref o), some (.int v1), some (.int v2), some (.long v3), none, some (.int v5), some (.int s.1), none, none] [] (176, R, s.2) Q) (HE0 : ∀ x : jH, z = .inr x → jEx X (d + 1) jc_259 130 [some (.ref o), some (.int v1), some (.int v2), some (.long v3), none, some (.int v5), none, none, none] [] (176, R, x) Q) :
    jEx X (d + 1) jc_259 77 [some (.ref o), some (.int v1), some (.int v2), some (.long v3), none, some (.int v5), some (.int v6), none, none] [] (176, R, h) Q := by
  unfold fM_answers_l77_b at K
  refine jx_next (pc := 77) (pc' := 79) rfl rfl ?_
  refine jx_iflt (pc := 79) rfl (fun hc10 => ?_) (fun hc10 => ?_)
  · replace K := (if_pos hc10).symm.trans K
    obtain rfl := Option.some.inj K
    refine jx_le (pl' := [some (.ref o), some (.int v1), some (.int v2), some (.long v3), none, some (.int v5), none, none, none]) (jle_v (jle_v (jle_v (jle_v (jle_n (jle_v (jle_n (jle_n (jle_n jle_nil))))))))) ?_
    exact HE0 _ rfl
  · replace K := (if_neg hc10).symm.trans K
    refine jx_next (pc := 82) (pc' := 83) rfl rfl ?_
    refine jx_getr (pc := 83) rfl ho ?_
    refine jx_next (pc := 86) (pc' := 88) rfl rfl ?_
    refine jx_next (pc := 88) (pc' := 89) rfl rfl ?_
    refine jx_getr (pc := 89) rfl ho ?_
    refine jx_next (pc := 92) (pc' := 94) rfl rfl ?_
    obtain ⟨hg11, K⟩ := jguard K
    refine jx_lald (pc := 94) rfl (jtR hT ho (k := 54) (c := 21) rfl) hg11 ?_
    refine jx_next (pc := 95) (pc' := 97) rfl rfl ?_
    refine jx_next (pc := 97) (pc' := 98) rfl rfl ?_
    refine jx_next (pc := 98) (pc' := 99) rfl rfl ?_
    refine jx_next (pc := 99) (pc' := 100) rfl rfl ?_
    refine jx_next (pc := 100) (pc' := 101) rfl rfl ?_
    refine jx_next (pc := 101) (pc' := 103) rfl rfl ?_
    refine jx_ifle (pc := 103) rfl (fun hc12 => ?_) (fun hc12 => ?_)
    · replace K := (if_pos hc12).symm.trans K
      refine jx_next (pc := 106) (pc' := 107) rfl rfl ?_
      refine jx_getr (pc := 107) rfl ho ?_
      refine jx_next (pc := 110) (pc' := 112) rfl rfl ?_
      refine jx_next (pc := 112) (pc' := 113) rfl rfl ?_
      refine jx_next (pc := 113) (pc' := 114) rfl rfl ?_
      obtain ⟨hg13, K⟩ := jguard K
      refine jx_lald (pc := 114) rfl (jtR hT ho (k := 54) (c := 21) rfl) hg13 ?_
      refine jx_next (pc := 115) (pc' := 116) rfl rfl ?_
      refine jx_next (pc := 116) (pc' := 117) rfl rfl ?_
      refine jx_next (pc := 117) (pc' := 118) rfl rfl ?_
      refine jx_next (pc := 118) (pc' := 122) rfl rfl ?_
      refine jx_le (pl' := [some (.ref o), some (.int v1), some (.int v2), some (.long v3), none, some (.int v5), some (.int v6), none, none]) (jle_v (jle_v (jle_v (jle_v (jle_n (jle_v (jle_v (jle_n (jle_n jle_nil))))))))) ?_
      exact kM_answers_l77_j122 hT ho (jtR hT ho (k := 54) (c := 21) rfl) hd K HL HE0
    · replace K := (if_neg hc12).symm.trans K
      refine jx_next (pc := 121) (pc' := 122) rfl rfl ?_
      refine jx_le (pl' := [some (.ref o), some (.int v1), some (.int v2), some (.long v3), none, some (.int v5), some (.int v6), none, none]) (jle_v (jle_v (jle_v (jle_v (jle_n (jle_v (jle_v (jle_n (jle_n jle_nil))))))))) ?_
      exact kM_answers_l77_j122 hT ho (jtR hT ho (k := 54) (c := 21) rfl) hd K HL HE0
theorem kM_answers_l77_w {X : jX} {d : Nat} {R : jR} {Q : Option Value → jS → Prop} {o : Nat} {v1 : Int32} {v2 : Int32} {v3 : Int64} {v5 : Int32} (hT : jTy R) (ho : jcl 176 o = 12) (hd : 2 ≤ (d + 1)) {s : Int32 × jH} {x : jH} (K : jlim (fM_answers_l77 R o v1 v2 v3 v5) s = some x) (HE : jEx X (d + 1) jc_259 130 [some (.ref o), some (.int v1), some (.int v2), some (.long v3), none, some (.int v5), none, none, none] [] (176, R, x) Q) :
    jEx X (d + 1) jc_259 77 [some (.ref o), some (.int v1), some (.int v2), some (.long v3), none, some (.int v5), some (.int s.1), none, none] [] (176, R, s.2) Q := by
  refine jlim_ok (G := fun s : Int32 × jH => jEx X (d + 1) jc_259 77 [some (.ref o), some (.int v1), some (.int v2), some (.long v3), none, some (.int v5), some (.int s.1), none, none] [] (176, R, s.2) Q) (GX := fun x : jH => jEx X (d + 1) jc_259 130 [some (.ref o), some (.int v1), some (.int v2), some (.long v3), none, some (.int v5), none, none, none] [] (176, R, x) Q) (fun s z hz HL HE => ?_) K HE
  exact kM_answers_l77_b hT ho hd hz HL HE
noncomputable def fM_answers_l68_b (R : jR) (o : Nat) (v1 : Int32) (v2 : Int32) (v3 : Int64) (v5 : Int32) (h : jH) : Option ((Int64 × Int32 × jH) ⊕ (Int64 × jH)) :=
  (if 0 < v5 then
  (Option.bind (jlim (fM_answers_l77 R o v1 v2 v3 v5) (8, h)) (fun (x15 : jH) =>
  some (.inl (v3 * 100, v5 + (-1), x15))))
  else
  some (.inr (v3, h)))
noncomputable def fM_answers_l68 (R : jR) (o : Nat) (v1 : Int32) (v2 : Int32) : (Int64 × Int32 × jH) → Option ((Int64 × Int32 × jH) ⊕ (Int64 × jH)) :=
  fun (s : Int64 × Int32 × jH) => fM_answers_l68_b R o v1 v2 s.1 s.2.1 s.2.2
theorem kM_answers_l68_b {X : jX} {d : Nat} {R : jR} {Q : Option Value → jS → Prop} {o : Nat} {v1 : Int32} {v2 : Int32} {v3 : Int64} {v5 : Int32} {h : jH} (hT : jTy R) (ho : jcl 176 o = 12) (hd : 2 ≤ (d + 1)) {z : (Int64 × Int32 × jH) ⊕ (Int64 × jH)} (K : fM_answers_l68_b R o v1 v2 v3 v5 h = some z) (HL : ∀ s : Int64 × Int32 × jH, z = .inl s → jEx X (d + 1) jc_259 68 [some (.ref o), some (.int v1), some (.int v2), some (.long s.1), none, some (.int s.2.1), none, none, none] [] (176, R, s.2.2) Q) (HE0 : ∀ x : Int64 × jH, z = .inr x → jEx X (d + 1) jc_259 142 [some (.ref o), some (.int v1), none, some (.long x.1), none, none, none, none, none] [] (176, R, x.2) Q) :
    jEx X (d + 1) jc_259 68 [some (.ref o), some (.int v1), some (.int v2), some (.long v3), none, some (.int v5), none, none, none] [] (176, R, h) Q := by
  unfold fM_answers_l68_b at K
  refine jx_next (pc := 68) (pc' := 70) rfl rfl ?_
  refine jx_ifle (pc := 70) rfl (fun hc9 => ?_) (fun hc9 => ?_)
  · replace K := (if_pos hc9).symm.trans K
    refine jx_next (pc := 73) (pc' := 75) rfl rfl ?_
    refine jx_sti (pc := 75) (p2 := [some (.ref o), some (.int v1), some (.int v2), some (.long v3), none, some (.int v5), some (.int 8), none, none]) rfl (jlt rfl) rfl ?_
    refine jx_le (pl' := [some (.ref o), some (.int v1), some (.int v2), some (.long v3), none, some (.int v5), some (.int 8), none, none]) (jle_v (jle_v (jle_v (jle_v (jle_n (jle_v (jle_v (jle_n (jle_n jle_nil))))))))) ?_
    obtain ⟨x15, hz_x15, K⟩ := Option.bind_eq_some_iff.mp K
    refine kM_answers_l77_w hT ho hd hz_x15 ?_
    refine jx_next (pc := 130) (pc' := 131) rfl rfl ?_
    refine jx_next (pc := 131) (pc' := 134) rfl rfl ?_
    refine jx_next (pc := 134) (pc' := 135) rfl rfl ?_
    refine jx_stln (pc := 135) (p2 := [some (.ref o), some (.int v1), some (.int v2), some (.long (v3 * 100)), none, some (.int v5), none, none, none]) rfl (jlt rfl) rfl ?_
    refine jx_inc (pc := 136) (x := v5) (p2 := [some (.ref o), some (.int v1), some (.int v2), some (.long (v3 * 100)), none, some (.int (v5 + (-1))), none, none, none]) rfl rfl (jlt rfl) rfl ?_
    refine jx_next (pc := 139) (pc' := 68) rfl rfl ?_
    obtain rfl := Option.some.inj K
    refine jx_le (pl' := [some (.ref o), some (.int v1), some (.int v2), some (.long (v3 * 100)), none, some (.int (v5 + (-1))), none, none, none]) (jle_v (jle_v (jle_v (jle_v (jle_n (jle_v (jle_n (jle_n (jle_n jle_nil))))))))) ?_
    exact HL _ rfl
  · replace K := (if_neg hc9).symm.trans K
    obtain rfl := Option.some.inj K
    refine jx_le (pl' := [some (.ref o), some (.int v1), none, some (.long v3), none, none, none, none, none]) (jle_v (jle_v (jle_n (jle_v (jle_n (jle_n (jle_n (jle_n (jle_n jle_nil))))))))) ?_
    exact HE0 _ rfl
theorem kM_answers_l68_w {X : jX} {d : Nat} {R : jR} {Q : Option Value → jS → Prop} {o : Nat} {v1 : Int32} {v2 : Int32} (hT : jTy R) (ho : jcl 176 o = 12) (hd : 2 ≤ (d + 1)) {s : Int64 × Int32 × jH} {x : Int64 × jH} (K : jlim (fM_answers_l68 R o v1 v2) s = some x) (HE : jEx X (d + 1) jc_259 142 [some (.ref o), some (.int v1), none, some (.long x.1), none, none, none, none, none] [] (176, R, x.2) Q) :
    jEx X (d + 1) jc_259 68 [some (.ref o), some (.int v1), some (.int v2), some (.long s.1), none, some (.int s.2.1), none, none, none] [] (176, R, s.2.2) Q := by
  refine jlim_ok (G := fun s : Int64 × Int32 × jH => jEx X (d + 1) jc_259 68 [some (.ref o), some (.int v1), some (.int v2), some (.long s.1), none, some (.int s.2.1), none, none, none] [] (176, R, s.2.2) Q) (GX := fun x : Int64 × jH => jEx X (d + 1) jc_259 142 [some (.ref o), some (.int v1), none, some (.long x.1), none, none, none, none, none] [] (176, R, x.2) Q) (fun s z hz HL HE => ?_) K HE
  exact kM_answers_l68_b hT ho hd hz HL HE
noncomputable def fM_answers_l156_b (R : jR) (v3 : Int64) (v5 : Int64) (v7 : Int32) (v8 : Int32) (h : jH) : Option ((Int64 × Int32 × Int32) ⊕ (Int32)) :=
  (if v8 < 6 then
  (if ¬ v3 = 0 then
  (if ¬ v3 = 0 then
  some (.inl ((v5 * 10) - (v5 * 10) / v3 * v3, (10 * v7) + (((v5 * 10) / v3).toInt32), v8 + 1))
  else none)
  else none)
  else
  some (.inr v7))
noncomputable def fM_answers_l156 (R : jR) (v3 : Int64) (h : jH) : (Int64 × Int32 × Int32) → Option ((Int64 × Int32 × Int32) ⊕ (Int32)) :=
  fun (s : Int64 × Int32 × Int32) => fM_answers_l156_b R v3 s.1 s.2.1 s.2.2 h
theorem kM_answers_l156_b {X : jX} {d : Nat} {R : jR} {Q : Option Value → jS → Prop} {v3 : Int64} {v5 : Int64} {v7 : Int32} {v8 : Int32} {h : jH} (hT : jTy R)  (hd : 2 ≤ (d + 1)) {z : (Int64 × Int32 × Int32) ⊕ (Int32)} (K : fM_answers_l156_b R v3 v5 v7 v8 h = some z) (HL : ∀ s : Int64 × Int32 × Int32, z = .inl s → jEx X (d + 1) jc_259 156 [none, none, none, some (.long v3), none, some (.long s.1), none, some (.int s.2.1), some (.int s.2.2)] [] (176, R, h) Q) (HE0 : ∀ x : Int32, z = .inr x → jEx X (d + 1) jc_259 196 [none, none, none, none, none, none, none, some (.int x), none] [] (176, R, h) Q) :
    jEx X (d + 1) jc_259 156 [none, none, none, some (.long v3), none, some (.long v5), none, some (.int v7), some (.int v8)] [] (176, R, h) Q := by
  unfold fM_answers_l156_b at K
  refine jx_next (pc := 156) (pc' := 158) rfl rfl ?_
  refine jx_next (pc := 158) (pc' := 160) rfl rfl ?_
  refine jx_icge (pc := 160) rfl (fun hc18 => ?_) (fun hc18 => ?_)
  · replace K := (if_pos hc18).symm.trans K
    refine jx_next (pc := 163) (pc' := 165) rfl rfl ?_
    refine jx_next (pc := 165) (pc' := 168) rfl rfl ?_
    refine jx_next (pc := 168) (pc' := 169) rfl rfl ?_
    refine jx_stl (pc := 169) (p2 := [none, none, none, some (.long v3), none, some (.long (v5 * 10)), none, some (.int v7), some (.int v8)]) rfl (jlt rfl) rfl ?_
    refine jx_next (pc := 171) (pc' := 173) rfl rfl ?_
    refine jx_next (pc := 173) (pc' := 175) rfl rfl ?_
    refine jx_next (pc := 175) (pc' := 176) rfl rfl ?_
    refine jx_next (pc := 176) (pc' := 178) rfl rfl ?_
    refine jx_next (pc := 178) (pc' := 179) rfl rfl ?_
    obtain ⟨hg, K⟩ := jguard K
    refine jx_ldiv (pc := 179) rfl hg ?_
    refine jx_next (pc := 180) (pc' := 181) rfl rfl ?_
    refine jx_next (pc := 181) (pc' := 182) rfl rfl ?_
    refine jx_sti (pc := 182) (p2 := [none, none, none, some (.long v3), none, some (.long (v5 * 10)), none, some (.int ((10 * v7) + (((v5 * 10) / v3).toInt32))), some (.int v8)]) rfl (jlt rfl) rfl ?_
    refine jx_next (pc := 184) (pc' := 186) rfl rfl ?_
    refine jx_next (pc := 186) (pc' := 187) rfl rfl ?_
    obtain ⟨hg, K⟩ := jguard K
    refine jx_lrem (pc := 187) rfl hg ?_
    refine jx_stl (pc := 188) (p2 := [none, none, none, some (.long v3), none, some (.long ((v5 * 10) - (v5 * 10) / v3 * v3)), none, some (.int ((10 * v7) + (((v5 * 10) / v3).toInt32))), some (.int v8)]) rfl (jlt rfl) rfl ?_
    refine jx_inc (pc := 190) (x := v8) (p2 := [none, none, none, some (.long v3), none, some (.long ((v5 * 10) - (v5 * 10) / v3 * v3)), none, some (.int ((10 * v7) + (((v5 * 10) / v3).toInt32))), some (.int (v8 + 1))]) rfl rfl (jlt rfl) rfl ?_
    refine jx_next (pc := 193) (pc' := 156) rfl rfl ?_
    obtain rfl := Option.some.inj K
    refine jx_le (pl' := [none, none, none, some (.long v3), none, some (.long ((v5 * 10) - (v5 * 10) / v3 * v3)), none, some (.int ((10 * v7) + (((v5 * 10) / v3).toInt32))), some (.int (v8 + 1))]) (jle_n (jle_n (jle_n (jle_v (jle_n (jle_v (jle_n (jle_v (jle_v jle_nil))))))))) ?_
    exact HL _ rfl
  · replace K := (if_neg hc18).symm.trans K
    obtain rfl := Option.some.inj K
    refine jx_le (pl' := [none, none, none, none, none, none, none, some (.int v7), none]) (jle_n (jle_n (jle_n (jle_n (jle_n (jle_n (jle_n (jle_v (jle_n jle_nil))))))))) ?_
    exact HE0 _ rfl
theorem kM_answers_l156_w {X : jX} {d : Nat} {R : jR} {Q : Option Value → jS → Prop} {v3 : Int64} {h : jH} (hT : jTy R)  (hd : 2 ≤ (d + 1)) {s : Int64 × Int32 × Int32} {x : Int32} (K : jlim (fM_answers_l156 R v3 h) s = some x) (HE : jEx X (d + 1) jc_259 196 [none, none, none, none, none, none, none, some (.int x), none] [] (176, R, h) Q) :
    jEx X (d + 1) jc_259 156 [none, none, none, some (.long v3), none, some (.long s.1), none, some (.int s.2.1), some (.int s.2.2)] [] (176, R, h) Q := by
  refine jlim_ok (G := fun s : Int64 × Int32 × Int32 => jEx X (d + 1) jc_259 156 [none, none, none, some (.long v3), none, some (.long s.1), none, some (.int s.2.1), some (.int s.2.2)] [] (176, R, h) Q) (GX := fun x : Int32 => jEx X (d + 1) jc_259 196 [none, none, none, none, none, none, none, some (.int x), none] [] (176, R, h) Q) (fun s z hz HL HE => ?_) K HE
  exact kM_answers_l156_b hT  hd hz HL HE
/-- AndGuestModel.answers(I)I -/
noncomputable def fM_answers (R : jR) (o : Nat) (v1 : Int32) (h : jH) : Option (Int32 × jH) :=
  (if (h.1 o 48) = 0 then
  some ((-1), h)
  else
  (if (fM_isIn v1.toInt64 0 8) = 0 then
  some ((-1), h)
  else
  (if jin 4 (jsh (R o 42)).2 then
  (if jin 0 (jsh (R o 54)).2 then
  (Option.bind (jlim (fM_answers_l40 R o v1 (h.1 (R o 42) (4 : Int32).toNatClampNeg) 1) (1, jhL h (R o 54) (0 : Int32).toNatClampNeg 1)) (fun (x7 : jH) =>
  (Option.bind (fM_howMany R o 1 x7) (fun (z8 : Int32) =>
  (Option.bind (jlim (fM_answers_l68 R o v1 (h.1 (R o 42) (4 : Int32).toNatClampNeg)) (1, z8, x7)) (fun (x16 : Int64 × jH) =>
  (if jin v1 (jsh (R o 54)).2 then
  (Option.bind (jlim (fM_answers_l156 R x16.1 x16.2) (x16.2.2 (R o 54) v1.toNatClampNeg, 0, 0)) (fun (x19 : Int32) =>
  some (x19, x16.2)))
  else none)))))))
  else none)
  else none)))
theorem kM_answers {X : jX} {d : Nat} {R : jR} {Q : Option Value → jS → Prop} {o : Nat} {v1 : Int32} {h : jH} (hT : jTy R) (ho : jcl 176 o = 12) (hd : 2 ≤ d) {z : Int32 × jH} (K : fM_answers R o v1 h = some z) (HQ : Q (some (.int z.1)) (176, R, z.2)) :
    jCa X d 259 [.ref o, .int v1] (176, R, h) Q := by
  obtain ⟨d, rfl⟩ : ∃ d9, d = d9 + 1 := ⟨d - 1, by omega⟩
  unfold fM_answers at K
  refine jCa_of (es := jc_259) (pl := [some (.ref o), some (.int v1), none, none, none, none, none, none, none]) (M := jm_259) rfl rfl rfl rfl ?_
  refine jx_next (pc := 0) (pc' := 1) rfl rfl ?_
  refine jx_getz (pc := 1) rfl ho ?_
  refine jx_ifeq (pc := 4) rfl (fun hc1 => ?_) (fun hc1 => ?_)
  · replace K := (if_pos hc1).symm.trans K
    refine jx_next (pc := 19) (pc' := 20) rfl rfl ?_
    obtain rfl := Option.some.inj K
    exact jx_iret (pc := 20) rfl HQ
  · replace K := (if_neg hc1).symm.trans K
    refine jx_next (pc := 7) (pc' := 8) rfl rfl ?_
    refine jx_next (pc := 8) (pc' := 9) rfl rfl ?_
    refine jx_next (pc := 9) (pc' := 10) rfl rfl ?_
    refine jx_next (pc := 10) (pc' := 13) rfl rfl ?_
    refine jx_calls (pc := 13) rfl (Nat.le_of_ble_eq_true rfl) (Nat.le_of_ble_eq_true rfl) ?_
    refine kM_isIn  (by omega) rfl ?_
    refine jx_ifne (pc := 16) rfl (fun hc2 => ?_) (fun hc2 => ?_)
    · replace K := (if_pos hc2).symm.trans K
      refine jx_next (pc := 19) (pc' := 20) rfl rfl ?_
      obtain rfl := Option.some.inj K
      exact jx_iret (pc := 20) rfl HQ
    · replace K := (if_neg hc2).symm.trans K
      refine jx_next (pc := 21) (pc' := 22) rfl rfl ?_
      refine jx_getr (pc := 22) rfl ho ?_
      refine jx_next (pc := 25) (pc' := 26) rfl rfl ?_
      obtain ⟨hg3, K⟩ := jguard K
      refine jx_iald (pc := 26) rfl (jtR hT ho (k := 42) (c := 20) rfl) hg3 ?_
      refine jx_stin (pc := 27) (p2 := [some (.ref o), some (.int v1), some (.int (h.1 (R o 42) (4 : Int32).toNatClampNeg)), none, none, none, none, none, none]) rfl (jlt rfl) rfl ?_
      refine jx_next (pc := 28) (pc' := 29) rfl rfl ?_
      refine jx_stln (pc := 29) (p2 := [some (.ref o), some (.int v1), some (.int (h.1 (R o 42) (4 : Int32).toNatClampNeg)), some (.long 1), none, none, none, none, none]) rfl (jlt rfl) rfl ?_
      refine jx_next (pc := 30) (pc' := 31) rfl rfl ?_
      refine jx_getr (pc := 31) rfl ho ?_
      refine jx_next (pc := 34) (pc' := 35) rfl rfl ?_
      refine jx_next (pc := 35) (pc' := 36) rfl rfl ?_
      obtain ⟨hg4, K⟩ := jguard K
      refine jx_last (pc := 36) rfl (jtR hT ho (k := 54) (c := 21) rfl) hg4 ?_
      refine jx_next (pc := 37) (pc' := 38) rfl rfl ?_
      refine jx_sti (pc := 38) (p2 := [some (.ref o), some (.int v1), some (.int (h.1 (R o 42) (4 : Int32).toNatClampNeg)), some (.long 1), none, some (.int 1), none, none, none]) rfl (jlt rfl) rfl ?_
      refine jx_le (pl' := [some (.ref o), some (.int v1), some (.int (h.1 (R o 42) (4 : Int32).toNatClampNeg)), some (.long 1), none, some (.int 1), none, none, none]) (jle_v (jle_v (jle_v (jle_v (jle_n (jle_v (jle_n (jle_n (jle_n jle_nil))))))))) ?_
      obtain ⟨x7, hz_x7, K⟩ := Option.bind_eq_some_iff.mp K
      refine kM_answers_l40_w hT ho hd hz_x7 ?_
      refine jx_next (pc := 61) (pc' := 62) rfl rfl ?_
      refine jx_next (pc := 62) (pc' := 63) rfl rfl ?_
      refine jx_callv (pc := 63) (o := o) (rest := []) rfl ⟨by decide, by decide⟩ rfl ho (Nat.le_of_ble_eq_true rfl) ?_
      obtain ⟨z8, hz_z8, K⟩ := Option.bind_eq_some_iff.mp K
      refine kM_howMany hT ho (by omega) hz_z8 ?_
      refine jx_sti (pc := 66) (p2 := [some (.ref o), some (.int v1), some (.int (h.1 (R o 42) (4 : Int32).toNatClampNeg)), some (.long 1), none, some (.int z8), none, none, none]) rfl (jlt rfl) rfl ?_
      refine jx_le (pl' := [some (.ref o), some (.int v1), some (.int (h.1 (R o 42) (4 : Int32).toNatClampNeg)), some (.long 1), none, some (.int z8), none, none, none]) (jle_v (jle_v (jle_v (jle_v (jle_n (jle_v (jle_n (jle_n (jle_n jle_nil))))))))) ?_
      obtain ⟨x16, hz_x16, K⟩ := Option.bind_eq_some_iff.mp K
      refine kM_answers_l68_w hT ho hd hz_x16 ?_
      refine jx_next (pc := 142) (pc' := 143) rfl rfl ?_
      refine jx_getr (pc := 143) rfl ho ?_
      refine jx_next (pc := 146) (pc' := 147) rfl rfl ?_
      obtain ⟨hg17, K⟩ := jguard K
      refine jx_lald (pc := 147) rfl (jtR hT ho (k := 54) (c := 21) rfl) hg17 ?_
      refine jx_stl (pc := 148) (p2 := [some (.ref o), some (.int v1), none, some (.long x16.1), none, some (.long (x16.2.2 (R o 54) v1.toNatClampNeg)), none, none, none]) rfl (jlt rfl) rfl ?_
      refine jx_next (pc := 150) (pc' := 151) rfl rfl ?_
      refine jx_sti (pc := 151) (p2 := [some (.ref o), some (.int v1), none, some (.long x16.1), none, some (.long (x16.2.2 (R o 54) v1.toNatClampNeg)), none, some (.int 0), none]) rfl (jlt rfl) rfl ?_
      refine jx_next (pc := 153) (pc' := 154) rfl rfl ?_
      refine jx_sti (pc := 154) (p2 := [some (.ref o), some (.int v1), none, some (.long x16.1), none, some (.long (x16.2.2 (R o 54) v1.toNatClampNeg)), none, some (.int 0), some (.int 0)]) rfl (jlt rfl) rfl ?_
      refine jx_le (pl' := [none, none, none, some (.long x16.1), none, some (.long (x16.2.2 (R o 54) v1.toNatClampNeg)), none, some (.int 0), some (.int 0)]) (jle_n (jle_n (jle_n (jle_v (jle_n (jle_v (jle_n (jle_v (jle_v jle_nil))))))))) ?_
      obtain ⟨x19, hz_x19, K⟩ := Option.bind_eq_some_iff.mp K
      refine kM_answers_l156_w hT  hd hz_x19 ?_
      refine jx_next (pc := 196) (pc' := 198) rfl rfl ?_
      obtain rfl := Option.some.inj K
      exact jx_iret (pc := 198) rfl HQ
