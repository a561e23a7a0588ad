/-- AndGuest$Formula.readLate(LAndGuest$Reader;)V -/
noncomputable def fFo_readLate (o : Nat) (h : jH) : Option jH :=
  (if (fFo_isEmpty o h) = 0 then
  some (fRd_failHere 5 h)
  else
  (Option.bind (fRd_takesWord 1011 (jhI h o 3 0)) (fun (z4 : Int32 × jH) =>
  (Option.bind (fFo_grp 400 3 o 0 0 z4.2) (fun (z5 : jH) =>
  some z5)))))
theorem kFo_readLate {X : jX} {dd : Nat} {p d : Nat} {q : Nat → Nat} {Q : Option Value → jS → Prop} {o : Nat} {h : jH} (hP : jOK p d q) (ho : jcl 176 o = 5) (hd : 413 ≤ dd) {z : jH} (K : fFo_readLate o h = some z) (HQ : Q none (176, jRf p d q, z)) :
    jCa X dd 51 [.ref o, .ref 6] (176, jRf p d q, h) Q := by
  obtain ⟨dd, rfl⟩ : ∃ d9, dd = d9 + 1 := ⟨dd - 1, by omega⟩
  unfold fFo_readLate at K
  refine jCa_of (es := jc_51) (pl := [some (.ref o), some (.ref 6)]) (M := jm_51) rfl rfl rfl rfl ?_
  refine jx_next (pc := 0) (pc' := 1) rfl rfl ?_
  refine jx_callv (pc := 1) (o := o) (rest := []) rfl ⟨by decide, by decide⟩ rfl ho (Nat.le_of_ble_eq_true rfl) ?_
  refine kFo_isEmpty hP ho (by omega) rfl ?_
  refine jx_ifne (pc := 4) rfl (fun hc2 => ?_) (fun hc2 => ?_)
  · replace K := (if_pos hc2).symm.trans K
    refine jx_next (pc := 7) (pc' := 8) rfl rfl ?_
    refine jx_next (pc := 8) (pc' := 9) rfl rfl ?_
    refine jx_callv (pc := 9) (o := 6) (rest := []) rfl ⟨by decide, by decide⟩ rfl jko_6 (Nat.le_of_ble_eq_true rfl) ?_
    refine kRd_failHere hP (by omega) rfl ?_
    obtain rfl := Option.some.inj K
    exact jx_ret (pc := 12) rfl rfl HQ
  · replace K := (if_neg hc2).symm.trans K
    refine jx_next (pc := 13) (pc' := 14) rfl rfl ?_
    refine jx_next (pc := 14) (pc' := 15) rfl rfl ?_
    refine jx_putz (pc := 15) rfl ho (Or.inl rfl) ?_
    refine jx_next (pc := 18) (pc' := 19) rfl rfl ?_
    refine jx_next (pc := 19) (pc' := 22) rfl rfl ?_
    refine jx_callv (pc := 22) (o := 6) (rest := []) rfl ⟨by decide, by decide⟩ rfl jko_6 (Nat.le_of_ble_eq_true rfl) ?_
    obtain ⟨z4, hz_z4, K⟩ := Option.bind_eq_some_iff.mp K
    refine kRd_takesWord hP (by decide) (by omega) hz_z4 ?_
    refine jx_next (pc := 25) (pc' := 26) rfl rfl ?_
    refine jx_next (pc := 26) (pc' := 27) rfl rfl ?_
    refine jx_next (pc := 27) (pc' := 28) rfl rfl ?_
    refine jx_next (pc := 28) (pc' := 29) rfl rfl ?_
    refine jx_callv (pc := 29) (o := o) (rest := []) rfl ⟨by decide, by decide⟩ rfl ho (Nat.le_of_ble_eq_true rfl) ?_
    obtain ⟨z5, hz_z5, K⟩ := Option.bind_eq_some_iff.mp K
    refine kFo_readSum hP ho (by omega) hz_z5 ?_
    obtain rfl := Option.some.inj K
    exact jx_ret (pc := 32) rfl rfl HQ
noncomputable def fPr_readStatement_j109 (v1 : Nat) (s1 : Nat) (s2 : Nat) (s3 : Nat) (s4 : Int32) (h : jH) : Option jH :=
  (Option.bind (fPr_readTwo s1 s2 s3 s4 h) (fun (z21 : jH) =>
  some (jhI z21 v1 2 ((z21.1 v1 2) + 1))))
theorem kPr_readStatement_j109 {X : jX} {dd : Nat} {p d : Nat} {q : Nat → Nat} {Q : Option Value → jS → Prop} {v1 : Nat} {s1 : Nat} {s2 : Nat} {s3 : Nat} {s4 : Int32} {h : jH} (hP : jOK p d q) (hv1 : jcl 176 v1 = 10) (hs1 : jcl 176 s1 = 13) (hs2 : jcl 176 s2 = 10) (hs3 : jcl 176 s3 = 20) (hd : 414 ≤ (dd + 1)) {z : jH} (K : fPr_readStatement_j109 v1 s1 s2 s3 s4 h = some z) (HQ : Q none (176, jRf p d q, z)) :
    jEx X (dd + 1) jc_42 109 [none, some (.ref v1)] [.int s4, .ref s3, .ref s2, .ref s1, .ref 7] (176, jRf p d q, h) Q := by
  unfold fPr_readStatement_j109 at K
  refine jx_callv (pc := 109) (o := 7) (rest := []) rfl ⟨by decide, by decide⟩ rfl jko_7 (Nat.le_of_ble_eq_true rfl) ?_
  obtain ⟨z21, hz_z21, K⟩ := Option.bind_eq_some_iff.mp K
  refine kPr_readTwo hP hs1 hs2 hs3 (by omega) hz_z21 ?_
  refine jx_next (pc := 112) (pc' := 113) rfl rfl ?_
  refine jx_next (pc := 113) (pc' := 114) rfl rfl ?_
  refine jx_geti (pc := 114) rfl hv1 ?_
  refine jx_next (pc := 117) (pc' := 118) rfl rfl ?_
  refine jx_next (pc := 118) (pc' := 119) rfl rfl ?_
  refine jx_puti (pc := 119) rfl hv1 ?_
  refine jx_next (pc := 122) (pc' := 247) rfl rfl ?_
  obtain rfl := Option.some.inj K
  exact jx_ret (pc := 247) rfl rfl HQ
noncomputable def fPr_readStatement_j57 (v1 : Nat) (s1 : Nat) (s2 : Nat) (s3 : Nat) (s4 : Int32) (h : jH) : Option jH :=
  (Option.bind (fPr_readTwo s1 s2 s3 s4 h) (fun (z23 : jH) =>
  some (jhI z23 v1 1 ((z23.1 v1 1) + 1))))
theorem kPr_readStatement_j57 {X : jX} {dd : Nat} {p d : Nat} {q : Nat → Nat} {Q : Option Value → jS → Prop} {v1 : Nat} {s1 : Nat} {s2 : Nat} {s3 : Nat} {s4 : Int32} {h : jH} (hP : jOK p d q) (hv1 : jcl 176 v1 = 10) (hs1 : jcl 176 s1 = 13) (hs2 : jcl 176 s2 = 10) (hs3 : jcl 176 s3 = 20) (hd : 414 ≤ (dd + 1)) {z : jH} (K : fPr_readStatement_j57 v1 s1 s2 s3 s4 h = some z) (HQ : Q none (176, jRf p d q, z)) :
    jEx X (dd + 1) jc_42 57 [none, some (.ref v1)] [.int s4, .ref s3, .ref s2, .ref s1, .ref 7] (176, jRf p d q, h) Q := by
  unfold fPr_readStatement_j57 at K
  refine jx_callv (pc := 57) (o := 7) (rest := []) rfl ⟨by decide, by decide⟩ rfl jko_7 (Nat.le_of_ble_eq_true rfl) ?_
  obtain ⟨z23, hz_z23, K⟩ := Option.bind_eq_some_iff.mp K
  refine kPr_readTwo hP hs1 hs2 hs3 (by omega) hz_z23 ?_
  refine jx_next (pc := 60) (pc' := 61) rfl rfl ?_
  refine jx_next (pc := 61) (pc' := 62) rfl rfl ?_
  refine jx_geti (pc := 62) rfl hv1 ?_
  refine jx_next (pc := 65) (pc' := 66) rfl rfl ?_
  refine jx_next (pc := 66) (pc' := 67) rfl rfl ?_
  refine jx_puti (pc := 67) rfl hv1 ?_
  refine jx_next (pc := 70) (pc' := 247) rfl rfl ?_
  obtain rfl := Option.some.inj K
  exact jx_ret (pc := 247) rfl rfl HQ
/-- AndGuest$PlanReader.readStatement(LAndGuest$Plan;)V -/
noncomputable def fPr_readStatement (v1 : Nat) (h : jH) : Option jH :=
  (if (fRd_standsWord 1004 h) = 0 then
  (if (fRd_standsWord 1009 h) = 0 then
  (if (fRd_standsWord 1010 h) = 0 then
  (if (fRd_standsWord 1011 h) = 0 then
  (Option.bind (fRd_takesWord 1012 h) (fun (z9 : Int32 × jH) =>
  (if z9.1 = 0 then
  (Option.bind (fRd_takesWord 1013 z9.2) (fun (z11 : Int32 × jH) =>
  (if z11.1 = 0 then
  (Option.bind (fRd_takesWord 1014 z11.2) (fun (z13 : Int32 × jH) =>
  (if z13.1 = 0 then
  some (fRd_failHere 1 z13.2)
  else
  (Option.bind (fRd_wantsNumber 9 z13.2) (fun (z16 : Int32 × jH) =>
  some (jhI z16.2 v1 9 z16.1))))))
  else
  (Option.bind (fRd_wantsNumber 100 z11.2) (fun (z17 : Int32 × jH) =>
  some (jhI z17.2 v1 8 z17.1))))))
  else
  (Option.bind (fRd_wantsNumber 10 z9.2) (fun (z18 : Int32 × jH) =>
  some (jhI z18.2 v1 7 z18.1))))))
  else
  (Option.bind (fFo_readLate (v1 + 9) h) (fun (z19 : jH) =>
  some z19)))
  else
  (if (h.1 v1 2) < 24 then
  fPr_readStatement_j109  v1 1010 v1 (v1 + 7) 1 h
  else
  fPr_readStatement_j109  v1 1010 v1 (v1 + 7) 0 h))
  else
  (if (h.1 v1 1) < 16 then
  fPr_readStatement_j57  v1 1009 v1 (v1 + 6) 1 h
  else
  fPr_readStatement_j57  v1 1009 v1 (v1 + 6) 0 h))
  else
  (Option.bind (fPr_readGuest v1 h) (fun (z24 : jH) =>
  some z24)))
theorem kPr_readStatement {X : jX} {dd : Nat} {p d : Nat} {q : Nat → Nat} {Q : Option Value → jS → Prop} {v1 : Nat} {h : jH} (hP : jOK p d q) (hv1 : jcl 176 v1 = 10) (hd : 414 ≤ dd) {z : jH} (K : fPr_readStatement v1 h = some z) (HQ : Q none (176, jRf p d q, z)) :
    jCa X dd 42 [.ref 7, .ref v1] (176, jRf p d q, h) Q := by
  obtain ⟨dd, rfl⟩ : ∃ d9, dd = d9 + 1 := ⟨dd - 1, by omega⟩
  unfold fPr_readStatement at K
  refine jCa_of (es := jc_42) (pl := [some (.ref 7), some (.ref v1)]) (M := jm_42) rfl rfl rfl rfl ?_
  refine jx_next (pc := 0) (pc' := 1) rfl rfl ?_
  refine jx_getr2 (pc := 1) rfl jko_7 jr_4_0 ?_
  refine jx_next (pc := 4) (pc' := 7) rfl rfl ?_
  refine jx_callv (pc := 7) (o := 6) (rest := []) rfl ⟨by decide, by decide⟩ rfl jko_6 (Nat.le_of_ble_eq_true rfl) ?_
  refine kRd_standsWord hP (by decide) (by omega) rfl ?_
  refine jx_ifeq (pc := 10) rfl (fun hc2 => ?_) (fun hc2 => ?_)
  · replace K := (if_pos hc2).symm.trans K
    refine jx_next (pc := 21) (pc' := 22) rfl rfl ?_
    refine jx_getr2 (pc := 22) rfl jko_7 jr_4_0 ?_
    refine jx_next (pc := 25) (pc' := 28) rfl rfl ?_
    refine jx_callv (pc := 28) (o := 6) (rest := []) rfl ⟨by decide, by decide⟩ rfl jko_6 (Nat.le_of_ble_eq_true rfl) ?_
    refine kRd_standsWord hP (by decide) (by omega) rfl ?_
    refine jx_ifeq (pc := 31) rfl (fun hc4 => ?_) (fun hc4 => ?_)
    · replace K := (if_pos hc4).symm.trans K
      refine jx_next (pc := 73) (pc' := 74) rfl rfl ?_
      refine jx_getr2 (pc := 74) rfl jko_7 jr_4_0 ?_
      refine jx_next (pc := 77) (pc' := 80) rfl rfl ?_
      refine jx_callv (pc := 80) (o := 6) (rest := []) rfl ⟨by decide, by decide⟩ rfl jko_6 (Nat.le_of_ble_eq_true rfl) ?_
      refine kRd_standsWord hP (by decide) (by omega) rfl ?_
      refine jx_ifeq (pc := 83) rfl (fun hc6 => ?_) (fun hc6 => ?_)
      · replace K := (if_pos hc6).symm.trans K
        refine jx_next (pc := 125) (pc' := 126) rfl rfl ?_
        refine jx_getr2 (pc := 126) rfl jko_7 jr_4_0 ?_
        refine jx_next (pc := 129) (pc' := 132) rfl rfl ?_
        refine jx_callv (pc := 132) (o := 6) (rest := []) rfl ⟨by decide, by decide⟩ rfl jko_6 (Nat.le_of_ble_eq_true rfl) ?_
        refine kRd_standsWord hP (by decide) (by omega) rfl ?_
        refine jx_ifeq (pc := 135) rfl (fun hc8 => ?_) (fun hc8 => ?_)
        · replace K := (if_pos hc8).symm.trans K
          refine jx_next (pc := 152) (pc' := 153) rfl rfl ?_
          refine jx_getr2 (pc := 153) rfl jko_7 jr_4_0 ?_
          refine jx_next (pc := 156) (pc' := 159) rfl rfl ?_
          refine jx_callv (pc := 159) (o := 6) (rest := []) rfl ⟨by decide, by decide⟩ rfl jko_6 (Nat.le_of_ble_eq_true rfl) ?_
          obtain ⟨z9, hz_z9, K⟩ := Option.bind_eq_some_iff.mp K
          refine kRd_takesWord hP (by decide) (by omega) hz_z9 ?_
          refine jx_ifeq (pc := 162) rfl (fun hc10 => ?_) (fun hc10 => ?_)
          · replace K := (if_pos hc10).symm.trans K
            refine jx_next (pc := 181) (pc' := 182) rfl rfl ?_
            refine jx_getr2 (pc := 182) rfl jko_7 jr_4_0 ?_
            refine jx_next (pc := 185) (pc' := 188) rfl rfl ?_
            refine jx_callv (pc := 188) (o := 6) (rest := []) rfl ⟨by decide, by decide⟩ rfl jko_6 (Nat.le_of_ble_eq_true rfl) ?_
            obtain ⟨z11, hz_z11, K⟩ := Option.bind_eq_some_iff.mp K
            refine kRd_takesWord hP (by decide) (by omega) hz_z11 ?_
            refine jx_ifeq (pc := 191) rfl (fun hc12 => ?_) (fun hc12 => ?_)
            · replace K := (if_pos hc12).symm.trans K
              refine jx_next (pc := 210) (pc' := 211) rfl rfl ?_
              refine jx_getr2 (pc := 211) rfl jko_7 jr_4_0 ?_
              refine jx_next (pc := 214) (pc' := 217) rfl rfl ?_
              refine jx_callv (pc := 217) (o := 6) (rest := []) rfl ⟨by decide, by decide⟩ rfl jko_6 (Nat.le_of_ble_eq_true rfl) ?_
              obtain ⟨z13, hz_z13, K⟩ := Option.bind_eq_some_iff.mp K
              refine kRd_takesWord hP (by decide) (by omega) hz_z13 ?_
              refine jx_ifeq (pc := 220) rfl (fun hc14 => ?_) (fun hc14 => ?_)
              · replace K := (if_pos hc14).symm.trans K
                refine jx_next (pc := 239) (pc' := 240) rfl rfl ?_
                refine jx_getr2 (pc := 240) rfl jko_7 jr_4_0 ?_
                refine jx_next (pc := 243) (pc' := 244) rfl rfl ?_
                refine jx_callv (pc := 244) (o := 6) (rest := []) rfl ⟨by decide, by decide⟩ rfl jko_6 (Nat.le_of_ble_eq_true rfl) ?_
                refine kRd_failHere hP (by omega) rfl ?_
                obtain rfl := Option.some.inj K
                exact jx_ret (pc := 247) rfl rfl HQ
              · replace K := (if_neg hc14).symm.trans K
                refine jx_next (pc := 223) (pc' := 224) rfl rfl ?_
                refine jx_next (pc := 224) (pc' := 225) rfl rfl ?_
                refine jx_getr2 (pc := 225) rfl jko_7 jr_4_0 ?_
                refine jx_next (pc := 228) (pc' := 230) rfl rfl ?_
                refine jx_callv (pc := 230) (o := 6) (rest := [.ref v1]) rfl ⟨by decide, by decide⟩ rfl jko_6 (Nat.le_of_ble_eq_true rfl) ?_
                obtain ⟨z16, hz_z16, K⟩ := Option.bind_eq_some_iff.mp K
                refine kRd_wantsNumber hP (by omega) hz_z16 ?_
                refine jx_puti (pc := 233) rfl hv1 ?_
                refine jx_next (pc := 236) (pc' := 247) rfl rfl ?_
                obtain rfl := Option.some.inj K
                exact jx_ret (pc := 247) rfl rfl HQ
            · replace K := (if_neg hc12).symm.trans K
              refine jx_next (pc := 194) (pc' := 195) rfl rfl ?_
              refine jx_next (pc := 195) (pc' := 196) rfl rfl ?_
              refine jx_getr2 (pc := 196) rfl jko_7 jr_4_0 ?_
              refine jx_next (pc := 199) (pc' := 201) rfl rfl ?_
              refine jx_callv (pc := 201) (o := 6) (rest := [.ref v1]) rfl ⟨by decide, by decide⟩ rfl jko_6 (Nat.le_of_ble_eq_true rfl) ?_
              obtain ⟨z17, hz_z17, K⟩ := Option.bind_eq_some_iff.mp K
              refine kRd_wantsNumber hP (by omega) hz_z17 ?_
              refine jx_puti (pc := 204) rfl hv1 ?_
              refine jx_next (pc := 207) (pc' := 247) rfl rfl ?_
              obtain rfl := Option.some.inj K
              exact jx_ret (pc := 247) rfl rfl HQ
          · replace K := (if_neg hc10).symm.trans K
            refine jx_next (pc := 165) (pc' := 166) rfl rfl ?_
            refine jx_next (pc := 166) (pc' := 167) rfl rfl ?_
            refine jx_getr2 (pc := 167) rfl jko_7 jr_4_0 ?_
            refine jx_next (pc := 170) (pc' := 172) rfl rfl ?_
            refine jx_callv (pc := 172) (o := 6) (rest := [.ref v1]) rfl ⟨by decide, by decide⟩ rfl jko_6 (Nat.le_of_ble_eq_true rfl) ?_
            obtain ⟨z18, hz_z18, K⟩ := Option.bind_eq_some_iff.mp K
            refine kRd_wantsNumber hP (by omega) hz_z18 ?_
            refine jx_puti (pc := 175) rfl hv1 ?_
            refine jx_next (pc := 178) (pc' := 247) rfl rfl ?_
            obtain rfl := Option.some.inj K
            exact jx_ret (pc := 247) rfl rfl HQ
        · replace K := (if_neg hc8).symm.trans K
          refine jx_next (pc := 138) (pc' := 139) rfl rfl ?_
          refine jx_getr2 (pc := 139) rfl hv1 (jrm_10_18 hv1) ?_
          refine jx_next (pc := 142) (pc' := 143) rfl rfl ?_
          refine jx_getr2 (pc := 143) rfl jko_7 jr_4_0 ?_
          refine jx_callv (pc := 146) (o := (v1 + 9)) (rest := []) rfl ⟨by decide, by decide⟩ rfl (jkm_10_18 hv1) (Nat.le_of_ble_eq_true rfl) ?_
          obtain ⟨z19, hz_z19, K⟩ := Option.bind_eq_some_iff.mp K
          refine kFo_readLate hP (jkm_10_18 hv1) (by omega) hz_z19 ?_
          refine jx_next (pc := 149) (pc' := 247) rfl rfl ?_
          obtain rfl := Option.some.inj K
          exact jx_ret (pc := 247) rfl rfl HQ
      · replace K := (if_neg hc6).symm.trans K
        refine jx_next (pc := 86) (pc' := 87) rfl rfl ?_
        refine jx_next (pc := 87) (pc' := 90) rfl rfl ?_
        refine jx_next (pc := 90) (pc' := 91) rfl rfl ?_
        refine jx_next (pc := 91) (pc' := 92) rfl rfl ?_
        refine jx_getr2 (pc := 92) rfl hv1 (jrm_10_16 hv1) ?_
        refine jx_next (pc := 95) (pc' := 96) rfl rfl ?_
        refine jx_geti (pc := 96) rfl hv1 ?_
        refine jx_next (pc := 99) (pc' := 101) rfl rfl ?_
        refine jx_icge (pc := 101) rfl (fun hc20 => ?_) (fun hc20 => ?_)
        · replace K := (if_pos hc20).symm.trans K
          refine jx_next (pc := 104) (pc' := 105) rfl rfl ?_
          refine jx_next (pc := 105) (pc' := 109) rfl rfl ?_
          refine jx_le (pl' := [none, some (.ref v1)]) (jle_n (jle_v jle_nil)) ?_
          exact kPr_readStatement_j109 hP hv1 (by decide) hv1 (jkm_10_16 hv1) hd K HQ
        · replace K := (if_neg hc20).symm.trans K
          refine jx_next (pc := 108) (pc' := 109) rfl rfl ?_
          refine jx_le (pl' := [none, some (.ref v1)]) (jle_n (jle_v jle_nil)) ?_
          exact kPr_readStatement_j109 hP hv1 (by decide) hv1 (jkm_10_16 hv1) hd K HQ
    · replace K := (if_neg hc4).symm.trans K
      refine jx_next (pc := 34) (pc' := 35) rfl rfl ?_
      refine jx_next (pc := 35) (pc' := 38) rfl rfl ?_
      refine jx_next (pc := 38) (pc' := 39) rfl rfl ?_
      refine jx_next (pc := 39) (pc' := 40) rfl rfl ?_
      refine jx_getr2 (pc := 40) rfl hv1 (jrm_10_15 hv1) ?_
      refine jx_next (pc := 43) (pc' := 44) rfl rfl ?_
      refine jx_geti (pc := 44) rfl hv1 ?_
      refine jx_next (pc := 47) (pc' := 49) rfl rfl ?_
      refine jx_icge (pc := 49) rfl (fun hc22 => ?_) (fun hc22 => ?_)
      · replace K := (if_pos hc22).symm.trans K
        refine jx_next (pc := 52) (pc' := 53) rfl rfl ?_
        refine jx_next (pc := 53) (pc' := 57) rfl rfl ?_
        refine jx_le (pl' := [none, some (.ref v1)]) (jle_n (jle_v jle_nil)) ?_
        exact kPr_readStatement_j57 hP hv1 (by decide) hv1 (jkm_10_15 hv1) hd K HQ
      · replace K := (if_neg hc22).symm.trans K
        refine jx_next (pc := 56) (pc' := 57) rfl rfl ?_
        refine jx_le (pl' := [none, some (.ref v1)]) (jle_n (jle_v jle_nil)) ?_
        exact kPr_readStatement_j57 hP hv1 (by decide) hv1 (jkm_10_15 hv1) hd K HQ
  · replace K := (if_neg hc2).symm.trans K
    refine jx_next (pc := 13) (pc' := 14) rfl rfl ?_
    refine jx_next (pc := 14) (pc' := 15) rfl rfl ?_
    refine jx_callv (pc := 15) (o := 7) (rest := []) rfl ⟨by decide, by decide⟩ rfl jko_7 (Nat.le_of_ble_eq_true rfl) ?_
    obtain ⟨z24, hz_z24, K⟩ := Option.bind_eq_some_iff.mp K
    refine kPr_readGuest hP hv1 (by omega) hz_z24 ?_
    refine jx_next (pc := 18) (pc' := 247) rfl rfl ?_
    obtain rfl := Option.some.inj K
    exact jx_ret (pc := 247) rfl rfl HQ
noncomputable def fPr_readInto_l27_b (v1 : Nat) (v2 : Int32) (h : jH) : Option ((Int32 × jH) ⊕ (Int32 × jH)) :=
  (if v2 < 60 then
  (if (fRd_goesOn h) = 0 then
  some (.inr (v2, h))
  else
  (Option.bind (fPr_readStatement v1 h) (fun (z8 : jH) =>
  (Option.bind (fRd_wantsSign 59 z8) (fun (z9 : jH) =>
  some (.inl (v2 + 1, z9)))))))
  else
  some (.inr (v2, h)))
noncomputable def fPr_readInto_l27 (v1 : Nat) : (Int32 × jH) → Option ((Int32 × jH) ⊕ (Int32 × jH)) :=
  fun (s : Int32 × jH) => fPr_readInto_l27_b v1 s.1 s.2
theorem kPr_readInto_l27_b {X : jX} {dd : Nat} {p d : Nat} {q : Nat → Nat} {Q : Option Value → jS → Prop} {v1 : Nat} {v2 : Int32} {h : jH} (hP : jOK p d q) (hv1 : jcl 176 v1 = 10) (hd : 415 ≤ (dd + 1)) {z : (Int32 × jH) ⊕ (Int32 × jH)} (K : fPr_readInto_l27_b v1 v2 h = some z) (HL : ∀ s : Int32 × jH, z = .inl s → jEx X (dd + 1) jc_22 27 [some (.ref 7), some (.ref v1), some (.int s.1)] [] (176, jRf p d q, s.2) Q) (HE0 : ∀ x : Int32 × jH, z = .inr x → jEx X (dd + 1) jc_22 63 [some (.ref 7), some (.ref v1), some (.int x.1)] [] (176, jRf p d q, x.2) Q) :
    jEx X (dd + 1) jc_22 27 [some (.ref 7), some (.ref v1), some (.int v2)] [] (176, jRf p d q, h) Q := by
  unfold fPr_readInto_l27_b at K
  refine jx_next (pc := 27) (pc' := 28) rfl rfl ?_
  refine jx_next (pc := 28) (pc' := 30) rfl rfl ?_
  refine jx_icge (pc := 30) rfl (fun hc5 => ?_) (fun hc5 => ?_)
  · replace K := (if_pos hc5).symm.trans K
    refine jx_next (pc := 33) (pc' := 34) rfl rfl ?_
    refine jx_getr2 (pc := 34) rfl jko_7 jr_4_0 ?_
    refine jx_callv (pc := 37) (o := 6) (rest := []) rfl ⟨by decide, by decide⟩ rfl jko_6 (Nat.le_of_ble_eq_true rfl) ?_
    refine kRd_goesOn hP (by omega) rfl ?_
    refine jx_ifeq (pc := 40) rfl (fun hc7 => ?_) (fun hc7 => ?_)
    · replace K := (if_pos hc7).symm.trans K
      obtain rfl := Option.some.inj K
      refine jx_le (pl' := [some (.ref 7), some (.ref v1), some (.int v2)]) (jle_v (jle_v (jle_v jle_nil))) ?_
      exact HE0 _ rfl
    · replace K := (if_neg hc7).symm.trans K
      refine jx_next (pc := 43) (pc' := 44) rfl rfl ?_
      refine jx_next (pc := 44) (pc' := 45) rfl rfl ?_
      refine jx_callv (pc := 45) (o := 7) (rest := []) rfl ⟨by decide, by decide⟩ rfl jko_7 (Nat.le_of_ble_eq_true rfl) ?_
      obtain ⟨z8, hz_z8, K⟩ := Option.bind_eq_some_iff.mp K
      refine kPr_readStatement hP hv1 (by omega) hz_z8 ?_
      refine jx_next (pc := 48) (pc' := 49) rfl rfl ?_
      refine jx_getr2 (pc := 49) rfl jko_7 jr_4_0 ?_
      refine jx_next (pc := 52) (pc' := 54) rfl rfl ?_
      refine jx_callv (pc := 54) (o := 6) (rest := []) rfl ⟨by decide, by decide⟩ rfl jko_6 (Nat.le_of_ble_eq_true rfl) ?_
      obtain ⟨z9, hz_z9, K⟩ := Option.bind_eq_some_iff.mp K
      refine kRd_wantsSign hP (by omega) hz_z9 ?_
      refine jx_inc (pc := 57) (x := v2) (p2 := [some (.ref 7), some (.ref v1), some (.int (v2 + 1))]) rfl rfl (jlt rfl) rfl ?_
      refine jx_next (pc := 60) (pc' := 27) rfl rfl ?_
      obtain rfl := Option.some.inj K
      refine jx_le (pl' := [some (.ref 7), some (.ref v1), some (.int (v2 + 1))]) (jle_v (jle_v (jle_v jle_nil))) ?_
      exact HL (v2 + 1, z9) rfl
  · replace K := (if_neg hc5).symm.trans K
    obtain rfl := Option.some.inj K
    refine jx_le (pl' := [some (.ref 7), some (.ref v1), some (.int v2)]) (jle_v (jle_v (jle_v jle_nil))) ?_
    exact HE0 _ rfl
theorem kPr_readInto_l27_w {X : jX} {dd : Nat} {p d : Nat} {q : Nat → Nat} {Q : Option Value → jS → Prop} {v1 : Nat} (hP : jOK p d q) (hv1 : jcl 176 v1 = 10) (hd : 415 ≤ (dd + 1)) {s : Int32 × jH} {x : Int32 × jH} (K : jlim (fPr_readInto_l27 v1) s = some x) (HE : jEx X (dd + 1) jc_22 63 [some (.ref 7), some (.ref v1), some (.int x.1)] [] (176, jRf p d q, x.2) Q) :
    jEx X (dd + 1) jc_22 27 [some (.ref 7), some (.ref v1), some (.int s.1)] [] (176, jRf p d q, s.2) Q := by
  refine jlim_ok (G := fun s : Int32 × jH => jEx X (dd + 1) jc_22 27 [some (.ref 7), some (.ref v1), some (.int s.1)] [] (176, jRf p d q, s.2) Q) (GX := fun x : Int32 × jH => jEx X (dd + 1) jc_22 63 [some (.ref 7), some (.ref v1), some (.int x.1)] [] (176, jRf p d q, x.2) Q) (fun s z hz HL HE => ?_) K HE
  exact kPr_readInto_l27_b hP hv1 hd hz HL HE
noncomputable def fPr_readInto_j81 (v1 : Nat) (v2 : Int32) (h : jH) : Option (Int32 × jH) :=
  (Option.bind (fPn_findFarSets v1 h) (fun (z13 : jH) =>
  some (v2, z13)))
theorem kPr_readInto_j81 {X : jX} {dd : Nat} {p d : Nat} {q : Nat → Nat} {Q : Option Value → jS → Prop} {v1 : Nat} {v2 : Int32} {h : jH} (hP : jOK p d q) (hv1 : jcl 176 v1 = 10) (hd : 415 ≤ (dd + 1)) {z : Int32 × jH} (K : fPr_readInto_j81 v1 v2 h = some z) (HQ : Q (some (.int z.1)) (176, jRf p d q, z.2)) :
    jEx X (dd + 1) jc_22 81 [none, some (.ref v1), some (.int v2)] [] (176, jRf p d q, h) Q := by
  unfold fPr_readInto_j81 at K
  refine jx_next (pc := 81) (pc' := 82) rfl rfl ?_
  refine jx_callv (pc := 82) (o := v1) (rest := []) rfl ⟨by decide, by decide⟩ rfl hv1 (Nat.le_of_ble_eq_true rfl) ?_
  obtain ⟨z13, hz_z13, K⟩ := Option.bind_eq_some_iff.mp K
  refine kPn_findFarSets hP hv1 (by omega) hz_z13 ?_
  refine jx_next (pc := 85) (pc' := 86) rfl rfl ?_
  obtain rfl := Option.some.inj K
  exact jx_iret (pc := 86) rfl HQ
/-- AndGuest$PlanReader.readInto(LAndGuest$Plan;)I -/
noncomputable def fPr_readInto (v1 : Nat) (h : jH) : Option (Int32 × jH) :=
  (Option.bind (fPn_clear v1 h) (fun (z1 : jH) =>
  (Option.bind (fRd_begin z1) (fun (z2 : jH) =>
  (Option.bind (fPr_readSeats v1 z2) (fun (z3 : jH) =>
  (Option.bind (fRd_wantsSign 59 z3) (fun (z4 : jH) =>
  (Option.bind (jlim (fPr_readInto_l27  v1) (1, z4)) (fun (x10 : Int32 × jH) =>
  (if (fRd_goesOn x10.2) = 0 then
  fPr_readInto_j81  v1 x10.1 x10.2
  else
  fPr_readInto_j81  v1 x10.1 (fRd_failHere 5 x10.2))))))))))))
theorem kPr_readInto {X : jX} {dd : Nat} {p d : Nat} {q : Nat → Nat} {Q : Option Value → jS → Prop} {v1 : Nat} {h : jH} (hP : jOK p d q) (hv1 : jcl 176 v1 = 10) (hd : 415 ≤ dd) {z : Int32 × jH} (K : fPr_readInto v1 h = some z) (HQ : Q (some (.int z.1)) (176, jRf p d q, z.2)) :
    jCa X dd 22 [.ref 7, .ref v1] (176, jRf p d q, h) Q := by
  obtain ⟨dd, rfl⟩ : ∃ d9, dd = d9 + 1 := ⟨dd - 1, by omega⟩
  unfold fPr_readInto at K
  refine jCa_of (es := jc_22) (pl := [some (.ref 7), some (.ref v1), none]) (M := jm_22) rfl rfl rfl rfl ?_
  refine jx_next (pc := 0) (pc' := 1) rfl rfl ?_
  refine jx_callv (pc := 1) (o := v1) (rest := []) rfl ⟨by decide, by decide⟩ rfl hv1 (Nat.le_of_ble_eq_true rfl) ?_
  obtain ⟨z1, hz_z1, K⟩ := Option.bind_eq_some_iff.mp K
  refine kPn_clear hP hv1 (by omega) hz_z1 ?_
  refine jx_next (pc := 4) (pc' := 5) rfl rfl ?_
  refine jx_getr2 (pc := 5) rfl jko_7 jr_4_0 ?_
  refine jx_callv (pc := 8) (o := 6) (rest := []) rfl ⟨by decide, by decide⟩ rfl jko_6 (Nat.le_of_ble_eq_true rfl) ?_
  obtain ⟨z2, hz_z2, K⟩ := Option.bind_eq_some_iff.mp K
  refine kRd_begin hP (by omega) hz_z2 ?_
  refine jx_next (pc := 11) (pc' := 12) rfl rfl ?_
  refine jx_next (pc := 12) (pc' := 13) rfl rfl ?_
  refine jx_callv (pc := 13) (o := 7) (rest := []) rfl ⟨by decide, by decide⟩ rfl jko_7 (Nat.le_of_ble_eq_true rfl) ?_
  obtain ⟨z3, hz_z3, K⟩ := Option.bind_eq_some_iff.mp K
  refine kPr_readSeats hP hv1 (by omega) hz_z3 ?_
  refine jx_next (pc := 16) (pc' := 17) rfl rfl ?_
  refine jx_getr2 (pc := 17) rfl jko_7 jr_4_0 ?_
  refine jx_next (pc := 20) (pc' := 22) rfl rfl ?_
  refine jx_callv (pc := 22) (o := 6) (rest := []) rfl ⟨by decide, by decide⟩ rfl jko_6 (Nat.le_of_ble_eq_true rfl) ?_
  obtain ⟨z4, hz_z4, K⟩ := Option.bind_eq_some_iff.mp K
  refine kRd_wantsSign hP (by omega) hz_z4 ?_
  refine jx_next (pc := 25) (pc' := 26) rfl rfl ?_
  refine jx_stin (pc := 26) (p2 := [some (.ref 7), some (.ref v1), some (.int 1)]) rfl (jlt rfl) rfl ?_
  refine jx_le (pl' := [some (.ref 7), some (.ref v1), some (.int 1)]) (jle_v (jle_v (jle_v jle_nil))) ?_
  obtain ⟨x10, hz_x10, K⟩ := Option.bind_eq_some_iff.mp K
  refine kPr_readInto_l27_w hP hv1 hd hz_x10 ?_
  refine jx_next (pc := 63) (pc' := 64) rfl rfl ?_
  refine jx_getr2 (pc := 64) rfl jko_7 jr_4_0 ?_
  refine jx_callv (pc := 67) (o := 6) (rest := []) rfl ⟨by decide, by decide⟩ rfl jko_6 (Nat.le_of_ble_eq_true rfl) ?_
  refine kRd_goesOn hP (by omega) rfl ?_
  refine jx_ifeq (pc := 70) rfl (fun hc12 => ?_) (fun hc12 => ?_)
  · replace K := (if_pos hc12).symm.trans K
    refine jx_le (pl' := [none, some (.ref v1), some (.int x10.1)]) (jle_n (jle_v (jle_v jle_nil))) ?_
    exact kPr_readInto_j81 hP hv1 hd K HQ
  · replace K := (if_neg hc12).symm.trans K
    refine jx_next (pc := 73) (pc' := 74) rfl rfl ?_
    refine jx_getr2 (pc := 74) rfl jko_7 jr_4_0 ?_
    refine jx_next (pc := 77) (pc' := 78) rfl rfl ?_
    refine jx_callv (pc := 78) (o := 6) (rest := []) rfl ⟨by decide, by decide⟩ rfl jko_6 (Nat.le_of_ble_eq_true rfl) ?_
    refine kRd_failHere hP (by omega) rfl ?_
    refine jx_le (pl' := [none, some (.ref v1), some (.int x10.1)]) (jle_n (jle_v (jle_v jle_nil))) ?_
    exact kPr_readInto_j81 hP hv1 hd K HQ
/-- AndGuest.wedding()I -/
noncomputable def fA_wedding (p : Nat) (d : Nat)  (h : jH) : Option (Int32 × Nat × Nat × jH) :=
  (Option.bind (fPr_readInto d h) (fun (z1 : Int32 × jH) =>
  (if ((fA_closeReading z1.2).1 1 14) = 0 then
  (Option.bind (fSd_clear 11 ((fPy_adopt p d (fA_closeReading z1.2)).2.2)) (fun (z5 : jH) =>
  some (z1.1, (fPy_adopt p d (fA_closeReading z1.2)).2.1, p, jhI (fPa_clear z5) 1 12 1)))
  else
  (Option.bind (fA_refuse 1 (fA_closeReading z1.2)) (fun (z7 : jH) =>
  some ((-1), p, d, z7))))))
theorem kA_wedding {X : jX} {dd : Nat} {p d : Nat} {q : Nat → Nat} {Q : Option Value → jS → Prop}  {h : jH} (hP : jOK p d q)  (hd : 416 ≤ dd) {z : Int32 × Nat × Nat × jH} (K : fA_wedding p d  h = some z) (HQ : jOK z.2.1 z.2.2.1 q → Q (some (.int z.1)) (176, jRf z.2.1 z.2.2.1 q, z.2.2.2)) :
    jCa X dd 21 [.ref 1] (176, jRf p d q, h) Q := by
  obtain ⟨dd, rfl⟩ : ∃ d9, dd = d9 + 1 := ⟨dd - 1, by omega⟩
  unfold fA_wedding at K
  refine jCa_of (es := jc_21) (pl := [some (.ref 1), none]) (M := jm_21) rfl rfl rfl rfl ?_
  refine jx_next (pc := 0) (pc' := 1) rfl rfl ?_
  refine jx_getr2 (pc := 1) rfl jko_1 jr_1_3 ?_
  refine jx_next (pc := 4) (pc' := 5) rfl rfl ?_
  refine jx_getr2 (pc := 5) rfl jko_1 jr_1_11 ?_
  refine jx_callv (pc := 8) (o := 7) (rest := []) rfl ⟨by decide, by decide⟩ rfl jko_7 (Nat.le_of_ble_eq_true rfl) ?_
  obtain ⟨z1, hz_z1, K⟩ := Option.bind_eq_some_iff.mp K
  refine kPr_readInto hP hP.2.1 (by omega) hz_z1 ?_
  refine jx_stin (pc := 11) (p2 := [some (.ref 1), some (.int z1.1)]) rfl (jlt rfl) rfl ?_
  refine jx_next (pc := 12) (pc' := 13) rfl rfl ?_
  refine jx_callv (pc := 13) (o := 1) (rest := []) rfl ⟨by decide, by decide⟩ rfl jko_1 (Nat.le_of_ble_eq_true rfl) ?_
  refine kA_closeReading hP (by omega) rfl ?_
  refine jx_next (pc := 16) (pc' := 17) rfl rfl ?_
  refine jx_geti (pc := 17) rfl jko_1 ?_
  refine jx_ifeq (pc := 20) rfl (fun hc3 => ?_) (fun hc3 => ?_)
  · replace K := (if_pos hc3).symm.trans K
    refine jx_next (pc := 30) (pc' := 31) rfl rfl ?_
    refine jx_next (pc := 31) (pc' := 32) rfl rfl ?_
    refine jx_getr2 (pc := 32) rfl jko_1 jr_1_8 ?_
    refine jx_next (pc := 35) (pc' := 36) rfl rfl ?_
    refine jx_getr2 (pc := 36) rfl jko_1 jr_1_11 ?_
    refine jx_callv (pc := 39) (o := 79) (rest := [.ref 1]) rfl ⟨by decide, by decide⟩ rfl jko_79 (Nat.le_of_ble_eq_true rfl) ?_
    refine kPy_adopt hP hP.2.1 (by omega) rfl (fun hP_z4 => ?_)
    refine jx_putd (pc := 42) rfl ?_
    refine jx_next (pc := 45) (pc' := 46) rfl rfl ?_
    refine jx_getr2 (pc := 46) rfl jko_1 jr_1_5 ?_
    refine jx_callv (pc := 49) (o := 11) (rest := []) rfl ⟨by decide, by decide⟩ rfl jko_11 (Nat.le_of_ble_eq_true rfl) ?_
    obtain ⟨z5, hz_z5, K⟩ := Option.bind_eq_some_iff.mp K
    refine kSd_clear (jOK_d hP_z4 hP.1) jko_11 (by omega) hz_z5 ?_
    refine jx_next (pc := 52) (pc' := 53) rfl rfl ?_
    refine jx_getr2 (pc := 53) rfl jko_1 jr_1_7 ?_
    refine jx_callv (pc := 56) (o := 17) (rest := []) rfl ⟨by decide, by decide⟩ rfl jko_17 (Nat.le_of_ble_eq_true rfl) ?_
    refine kPa_clear (jOK_d hP_z4 hP.1) (by omega) rfl ?_
    refine jx_next (pc := 59) (pc' := 60) rfl rfl ?_
    refine jx_next (pc := 60) (pc' := 61) rfl rfl ?_
    refine jx_putz (pc := 61) rfl jko_1 (Or.inr rfl) ?_
    refine jx_next (pc := 64) (pc' := 65) rfl rfl ?_
    obtain rfl := Option.some.inj K
    exact jx_iret (pc := 65) rfl (HQ (jOK_d hP_z4 hP.1))
  · replace K := (if_neg hc3).symm.trans K
    refine jx_next (pc := 23) (pc' := 24) rfl rfl ?_
    refine jx_next (pc := 24) (pc' := 25) rfl rfl ?_
    refine jx_callv (pc := 25) (o := 1) (rest := []) rfl ⟨by decide, by decide⟩ rfl jko_1 (Nat.le_of_ble_eq_true rfl) ?_
    obtain ⟨z7, hz_z7, K⟩ := Option.bind_eq_some_iff.mp K
    refine kA_refuse hP (by omega) hz_z7 ?_
    refine jx_next (pc := 28) (pc' := 29) rfl rfl ?_
    obtain rfl := Option.some.inj K
    exact jx_iret (pc := 29) rfl (HQ hP)
noncomputable def fFo_readQuestion_j35 (v2 : Int32) (h : jH) : Option (Int32 × jH) :=
  some (v2, (fRd_wantsEnd h))
theorem kFo_readQuestion_j35 {X : jX} {dd : Nat} {p d : Nat} {q : Nat → Nat} {Q : Option Value → jS → Prop} {v2 : Int32} {h : jH} (hP : jOK p d q)  (hd : 413 ≤ (dd + 1)) {z : Int32 × jH} (K : fFo_readQuestion_j35 v2 h = some z) (HQ : Q (some (.int z.1)) (176, jRf p d q, z.2)) :
    jEx X (dd + 1) jc_168 35 [none, some (.ref 6), some (.int v2)] [] (176, jRf p d q, h) Q := by
  unfold fFo_readQuestion_j35 at K
  refine jx_next (pc := 35) (pc' := 36) rfl rfl ?_
  refine jx_callv (pc := 36) (o := 6) (rest := []) rfl ⟨by decide, by decide⟩ rfl jko_6 (Nat.le_of_ble_eq_true rfl) ?_
  refine kRd_wantsEnd hP (by omega) rfl ?_
  refine jx_next (pc := 39) (pc' := 40) rfl rfl ?_
  obtain rfl := Option.some.inj K
  exact jx_iret (pc := 40) rfl HQ
/-- AndGuest$Formula.readQuestion(LAndGuest$Reader;)I -/
noncomputable def fFo_readQuestion (o : Nat) (h : jH) : Option (Int32 × jH) :=
  (Option.bind (fFo_readKind (jhI (jhI h o 2 0) o 3 1)) (fun (z1 : Int32 × jH) =>
  (if 2 < z1.1 then
  (Option.bind (fFo_grp 400 3 o 0 0 z1.2) (fun (z3 : jH) =>
  fFo_readQuestion_j35  z1.1 z3))
  else
  (Option.bind (fFo_grp 400 0 o 0 0 z1.2) (fun (z5 : jH) =>
  fFo_readQuestion_j35  z1.1 z5)))))
theorem kFo_readQuestion {X : jX} {dd : Nat} {p d : Nat} {q : Nat → Nat} {Q : Option Value → jS → Prop} {o : Nat} {h : jH} (hP : jOK p d q) (ho : jcl 176 o = 5) (hd : 413 ≤ dd) {z : Int32 × jH} (K : fFo_readQuestion o h = some z) (HQ : Q (some (.int z.1)) (176, jRf p d q, z.2)) :
    jCa X dd 168 [.ref o, .ref 6] (176, jRf p d q, h) Q := by
  obtain ⟨dd, rfl⟩ : ∃ d9, dd = d9 + 1 := ⟨dd - 1, by omega⟩
  unfold fFo_readQuestion at K
  refine jCa_of (es := jc_168) (pl := [some (.ref o), some (.ref 6), none]) (M := jm_168) rfl rfl rfl rfl ?_
  refine jx_next (pc := 0) (pc' := 1) rfl rfl ?_
  refine jx_next (pc := 1) (pc' := 2) rfl rfl ?_
  refine jx_puti (pc := 2) rfl ho ?_
  refine jx_next (pc := 5) (pc' := 6) rfl rfl ?_
  refine jx_next (pc := 6) (pc' := 7) rfl rfl ?_
  refine jx_putz (pc := 7) rfl ho (Or.inr rfl) ?_
  refine jx_next (pc := 10) (pc' := 11) rfl rfl ?_
  refine jx_calls (pc := 11) rfl (Nat.le_of_ble_eq_true rfl) (Nat.le_of_ble_eq_true rfl) ?_
  obtain ⟨z1, hz_z1, K⟩ := Option.bind_eq_some_iff.mp K
  refine kFo_readKind hP (by omega) hz_z1 ?_
  refine jx_stin (pc := 14) (p2 := [some (.ref o), some (.ref 6), some (.int z1.1)]) rfl (jlt rfl) rfl ?_
  refine jx_next (pc := 15) (pc' := 16) rfl rfl ?_
  refine jx_next (pc := 16) (pc' := 17) rfl rfl ?_
  refine jx_icgt (pc := 17) rfl (fun hc2 => ?_) (fun hc2 => ?_)
  · replace K := (if_pos hc2).symm.trans K
    refine jx_next (pc := 29) (pc' := 30) rfl rfl ?_
    refine jx_next (pc := 30) (pc' := 31) rfl rfl ?_
    refine jx_next (pc := 31) (pc' := 32) rfl rfl ?_
    refine jx_callv (pc := 32) (o := o) (rest := []) rfl ⟨by decide, by decide⟩ rfl ho (Nat.le_of_ble_eq_true rfl) ?_
    obtain ⟨z3, hz_z3, K⟩ := Option.bind_eq_some_iff.mp K
    refine kFo_readSum hP ho (by omega) hz_z3 ?_
    refine jx_le (pl' := [none, some (.ref 6), some (.int z1.1)]) (jle_n (jle_v (jle_v jle_nil))) ?_
    exact kFo_readQuestion_j35 hP  hd K HQ
  · replace K := (if_neg hc2).symm.trans K
    refine jx_next (pc := 20) (pc' := 21) rfl rfl ?_
    refine jx_next (pc := 21) (pc' := 22) rfl rfl ?_
    refine jx_next (pc := 22) (pc' := 23) rfl rfl ?_
    refine jx_callv (pc := 23) (o := o) (rest := []) rfl ⟨by decide, by decide⟩ rfl ho (Nat.le_of_ble_eq_true rfl) ?_
    obtain ⟨z5, hz_z5, K⟩ := Option.bind_eq_some_iff.mp K
    refine kFo_readTest hP ho (by omega) hz_z5 ?_
    refine jx_next (pc := 26) (pc' := 35) rfl rfl ?_
    refine jx_le (pl' := [none, some (.ref 6), some (.int z1.1)]) (jle_n (jle_v (jle_v jle_nil))) ?_
    exact kFo_readQuestion_j35 hP  hd K HQ
/-- AndGuest.ask()J -/
noncomputable def fA_ask (p : Nat)  (h : jH) : Option (Int64 × jH) :=
  (if (h.1 1 12) = 0 then
  some ((-1000000000000000), (fTp_cut 2 0 h))
  else
  (Option.bind (fRd_begin h) (fun (z3 : jH) =>
  (Option.bind (fFo_readQuestion 8 z3) (fun (z4 : Int32 × jH) =>
  (if ((fA_closeReading z4.2).1 1 14) = 0 then
  (if 2 < z4.1 then
  (Option.bind (fA_answerOfSum p z4.1 (fA_closeReading z4.2)) (fun (z8 : Int64 × jH) =>
  some (z8.1, z8.2)))
  else
  (Option.bind (fA_answerOfTest p z4.1 (fA_closeReading z4.2)) (fun (z9 : Int64 × jH) =>
  some (z9.1, z9.2))))
  else
  some ((-1000000000000000), (fA_closeReading z4.2))))))))
theorem kA_ask {X : jX} {dd : Nat} {p d : Nat} {q : Nat → Nat} {Q : Option Value → jS → Prop}  {h : jH} (hP : jOK p d q)  (hd : 414 ≤ dd) {z : Int64 × jH} (K : fA_ask p  h = some z) (HQ : Q (some (.long z.1)) (176, jRf p d q, z.2)) :
    jCa X dd 167 [.ref 1] (176, jRf p d q, h) Q := by
  obtain ⟨dd, rfl⟩ : ∃ d9, dd = d9 + 1 := ⟨dd - 1, by omega⟩
  unfold fA_ask at K
  refine jCa_of (es := jc_167) (pl := [some (.ref 1), none]) (M := jm_167) rfl rfl rfl rfl ?_
  refine jx_next (pc := 0) (pc' := 1) rfl rfl ?_
  refine jx_getz (pc := 1) rfl jko_1 ?_
  refine jx_ifne (pc := 4) rfl (fun hc1 => ?_) (fun hc1 => ?_)
  · replace K := (if_pos hc1).symm.trans K
    refine jx_next (pc := 7) (pc' := 8) rfl rfl ?_
    refine jx_getr2 (pc := 8) rfl jko_1 jr_1_0 ?_
    refine jx_next (pc := 11) (pc' := 12) rfl rfl ?_
    refine jx_callv (pc := 12) (o := 2) (rest := []) rfl ⟨by decide, by decide⟩ rfl jko_2 (Nat.le_of_ble_eq_true rfl) ?_
    refine kTp_cut hP jko_2 (by omega) rfl ?_
    refine jx_next (pc := 15) (pc' := 18) rfl rfl ?_
    obtain rfl := Option.some.inj K
    exact jx_ret (pc := 18) rfl rfl HQ
  · replace K := (if_neg hc1).symm.trans K
    refine jx_next (pc := 19) (pc' := 20) rfl rfl ?_
    refine jx_getr2 (pc := 20) rfl jko_1 jr_1_2 ?_
    refine jx_callv (pc := 23) (o := 6) (rest := []) rfl ⟨by decide, by decide⟩ rfl jko_6 (Nat.le_of_ble_eq_true rfl) ?_
    obtain ⟨z3, hz_z3, K⟩ := Option.bind_eq_some_iff.mp K
    refine kRd_begin hP (by omega) hz_z3 ?_
    refine jx_next (pc := 26) (pc' := 27) rfl rfl ?_
    refine jx_getr2 (pc := 27) rfl jko_1 jr_1_4 ?_
    refine jx_next (pc := 30) (pc' := 31) rfl rfl ?_
    refine jx_getr2 (pc := 31) rfl jko_1 jr_1_2 ?_
    refine jx_callv (pc := 34) (o := 8) (rest := []) rfl ⟨by decide, by decide⟩ rfl jko_8 (Nat.le_of_ble_eq_true rfl) ?_
    obtain ⟨z4, hz_z4, K⟩ := Option.bind_eq_some_iff.mp K
    refine kFo_readQuestion hP jko_8 (by omega) hz_z4 ?_
    refine jx_stin (pc := 37) (p2 := [some (.ref 1), some (.int z4.1)]) rfl (jlt rfl) rfl ?_
    refine jx_next (pc := 38) (pc' := 39) rfl rfl ?_
    refine jx_callv (pc := 39) (o := 1) (rest := []) rfl ⟨by decide, by decide⟩ rfl jko_1 (Nat.le_of_ble_eq_true rfl) ?_
    refine kA_closeReading hP (by omega) rfl ?_
    refine jx_next (pc := 42) (pc' := 43) rfl rfl ?_
    refine jx_geti (pc := 43) rfl jko_1 ?_
    refine jx_ifeq (pc := 46) rfl (fun hc6 => ?_) (fun hc6 => ?_)
    · replace K := (if_pos hc6).symm.trans K
      refine jx_next (pc := 53) (pc' := 54) rfl rfl ?_
      refine jx_next (pc := 54) (pc' := 55) rfl rfl ?_
      refine jx_icgt (pc := 55) rfl (fun hc7 => ?_) (fun hc7 => ?_)
      · replace K := (if_pos hc7).symm.trans K
        refine jx_next (pc := 66) (pc' := 67) rfl rfl ?_
        refine jx_next (pc := 67) (pc' := 68) rfl rfl ?_
        refine jx_callv (pc := 68) (o := 1) (rest := []) rfl ⟨by decide, by decide⟩ rfl jko_1 (Nat.le_of_ble_eq_true rfl) ?_
        obtain ⟨z8, hz_z8, K⟩ := Option.bind_eq_some_iff.mp K
        refine kA_answerOfSum hP (by omega) hz_z8 ?_
        obtain rfl := Option.some.inj K
        exact jx_ret (pc := 71) rfl rfl HQ
      · replace K := (if_neg hc7).symm.trans K
        refine jx_next (pc := 58) (pc' := 59) rfl rfl ?_
        refine jx_next (pc := 59) (pc' := 60) rfl rfl ?_
        refine jx_callv (pc := 60) (o := 1) (rest := []) rfl ⟨by decide, by decide⟩ rfl jko_1 (Nat.le_of_ble_eq_true rfl) ?_
        obtain ⟨z9, hz_z9, K⟩ := Option.bind_eq_some_iff.mp K
        refine kA_answerOfTest hP (by omega) hz_z9 ?_
        refine jx_next (pc := 63) (pc' := 71) rfl rfl ?_
        obtain rfl := Option.some.inj K
        exact jx_ret (pc := 71) rfl rfl HQ
    · replace K := (if_neg hc6).symm.trans K
      refine jx_next (pc := 49) (pc' := 52) rfl rfl ?_
      obtain rfl := Option.some.inj K
      exact jx_ret (pc := 52) rfl rfl HQ
