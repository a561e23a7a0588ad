/-- java/lang/Math.max(II)I -/
noncomputable def fMt_max (v0 : Int32) (v1 : Int32) : Int32 :=
  (if v0 < v1 then
  (v1 : Int32)
  else
  (v0 : Int32))
theorem kMt_max {X : jX} {dd : Nat} {p d : Nat} {q : Nat → Nat} {Q : Option Value → jS → Prop} {v0 : Int32} {v1 : Int32} {h : jH}  (hd : 0 ≤ dd) {z : Int32} (K : fMt_max v0 v1 = z) (HQ : Q (some (.int z)) (176, jRf p d q, h)) :
    jCa X dd 2 [.int v0, .int v1] (176, jRf p d q, h) Q := by
  unfold fMt_max at K
  refine jCa_of (es := jc_2) (pl := [some (.int v0), some (.int v1)]) (M := jm_2) rfl rfl rfl rfl ?_
  refine jx_next (pc := 0) (pc' := 1) rfl rfl ?_
  refine jx_next (pc := 1) (pc' := 2) rfl rfl ?_
  refine jx_iclt (pc := 2) rfl (fun hc1 => ?_) (fun hc1 => ?_)
  · replace K := (if_pos hc1).symm.trans K
    refine jx_next (pc := 9) (pc' := 10) rfl rfl ?_
    obtain rfl := K
    exact jx_iret (pc := 10) rfl HQ
  · replace K := (if_neg hc1).symm.trans K
    refine jx_next (pc := 5) (pc' := 6) rfl rfl ?_
    refine jx_next (pc := 6) (pc' := 10) rfl rfl ?_
    obtain rfl := K
    exact jx_iret (pc := 10) rfl HQ
/-- AndGuest$Standing.imageSize(I)I -/
noncomputable def fSd_imageSize (v0 : Int32) : Int32 :=
  ((4 + (3 * v0)) + 1 : Int32)
theorem kSd_imageSize {X : jX} {dd : Nat} {p d : Nat} {q : Nat → Nat} {Q : Option Value → jS → Prop} {v0 : Int32} {h : jH}  (hd : 0 ≤ dd) {z : Int32} (K : fSd_imageSize v0 = z) (HQ : Q (some (.int z)) (176, jRf p d q, h)) :
    jCa X dd 3 [.int v0] (176, jRf p d q, h) Q := by
  unfold fSd_imageSize at K
  refine jCa_of (es := jc_3) (pl := [some (.int v0)]) (M := jm_3) rfl rfl rfl rfl ?_
  refine jx_next (pc := 0) (pc' := 1) rfl rfl ?_
  refine jx_next (pc := 1) (pc' := 2) rfl rfl ?_
  refine jx_next (pc := 2) (pc' := 3) rfl rfl ?_
  refine jx_next (pc := 3) (pc' := 4) rfl rfl ?_
  refine jx_next (pc := 4) (pc' := 5) rfl rfl ?_
  refine jx_next (pc := 5) (pc' := 6) rfl rfl ?_
  refine jx_next (pc := 6) (pc' := 7) rfl rfl ?_
  obtain rfl := K
  exact jx_iret (pc := 7) rfl HQ
/-- AndGuest$Tape.size()I -/
noncomputable def fTp_size (o : Nat) (h : jH) : Int32 :=
  (h.1 o 1 : Int32)
theorem kTp_size {X : jX} {dd : Nat} {p d : Nat} {q : Nat → Nat} {Q : Option Value → jS → Prop} {o : Nat} {h : jH} (hP : jOK p d q) (ho : jcl 176 o = 2) (hd : 0 ≤ dd) {z : Int32} (K : fTp_size o h = z) (HQ : Q (some (.int z)) (176, jRf p d q, h)) :
    jCa X dd 14 [.ref o] (176, jRf p d q, h) Q := by
  unfold fTp_size at K
  refine jCa_of (es := jc_14) (pl := [some (.ref o)]) (M := jm_14) rfl rfl rfl rfl ?_
  refine jx_next (pc := 0) (pc' := 1) rfl rfl ?_
  refine jx_geti (pc := 1) rfl ho ?_
  obtain rfl := K
  exact jx_iret (pc := 4) rfl HQ
/-- AndGuest.refuse(I)V -/
noncomputable def fA_refuse (v1 : Int32) (h : jH) : Option jH :=
  (if v1 < 0 then
  some h
  else
  (if v1 < 6 then
  (if jin v1 6 then
  (if jin v1 6 then
  some (jhI h 97 v1.toNatClampNeg ((h.1 97 v1.toNatClampNeg) + 1))
  else none)
  else none)
  else
  some h))
theorem kA_refuse {X : jX} {dd : Nat} {p d : Nat} {q : Nat → Nat} {Q : Option Value → jS → Prop} {v1 : Int32} {h : jH} (hP : jOK p d q)  (hd : 0 ≤ dd) {z : jH} (K : fA_refuse v1 h = some z) (HQ : Q none (176, jRf p d q, z)) :
    jCa X dd 15 [.ref 1, .int v1] (176, jRf p d q, h) Q := by
  unfold fA_refuse at K
  refine jCa_of (es := jc_15) (pl := [some (.ref 1), some (.int v1)]) (M := jm_15) rfl rfl rfl rfl ?_
  refine jx_next (pc := 0) (pc' := 1) rfl rfl ?_
  refine jx_iflt (pc := 1) rfl (fun hc1 => ?_) (fun hc1 => ?_)
  · replace K := (if_pos hc1).symm.trans K
    obtain rfl := Option.some.inj K
    exact jx_ret (pc := 23) rfl rfl HQ
  · replace K := (if_neg hc1).symm.trans K
    refine jx_next (pc := 4) (pc' := 5) rfl rfl ?_
    refine jx_next (pc := 5) (pc' := 6) rfl rfl ?_
    refine jx_getr2 (pc := 6) rfl jko_1 jr_1_10 ?_
    refine jx_alen2 (pc := 9) rfl jko_97 ⟨by decide, by decide⟩ (congrArg Int32.ofNat jno_97) ?_
    refine jx_icge (pc := 10) rfl (fun hc2 => ?_) (fun hc2 => ?_)
    · replace K := (if_pos hc2).symm.trans K
      refine jx_next (pc := 13) (pc' := 14) rfl rfl ?_
      refine jx_getr2 (pc := 14) rfl jko_1 jr_1_10 ?_
      refine jx_next (pc := 17) (pc' := 18) rfl rfl ?_
      refine jx_next (pc := 18) (pc' := 19) rfl rfl ?_
      obtain ⟨hg3, K⟩ := jguard K
      refine jx_iald2 (pc := 19) rfl jko_97 jno_97 hg3 ?_
      refine jx_next (pc := 20) (pc' := 21) rfl rfl ?_
      refine jx_next (pc := 21) (pc' := 22) rfl rfl ?_
      obtain ⟨hg4, K⟩ := jguard K
      refine jx_iast2 (pc := 22) rfl jko_97 jno_97 hg4 ?_
      obtain rfl := Option.some.inj K
      exact jx_ret (pc := 23) rfl rfl HQ
    · replace K := (if_neg hc2).symm.trans K
      obtain rfl := Option.some.inj K
      exact jx_ret (pc := 23) rfl rfl HQ
/-- AndGuest$Tape.put(I)V -/
noncomputable def fTp_put (o : Nat) (v1 : Int32) (h : jH) : Option jH :=
  (if (h.1 o 1) < (Int32.ofNat (jsh (o + 1)).2) then
  (if jin (h.1 o 1) (jsh (o + 1)).2 then
  some (jhI (jhI h (o + 1) (h.1 o 1).toNatClampNeg (v1 &&& 255)) o 1 (((jhI h (o + 1) (h.1 o 1).toNatClampNeg (v1 &&& 255)).1 o 1) + 1))
  else none)
  else
  some h)
theorem kTp_put {X : jX} {dd : Nat} {p d : Nat} {q : Nat → Nat} {Q : Option Value → jS → Prop} {o : Nat} {v1 : Int32} {h : jH} (hP : jOK p d q) (ho : jcl 176 o = 2) (hd : 0 ≤ dd) {z : jH} (K : fTp_put o v1 h = some z) (HQ : Q none (176, jRf p d q, z)) :
    jCa X dd 18 [.ref o, .int v1] (176, jRf p d q, h) Q := by
  unfold fTp_put at K
  refine jCa_of (es := jc_18) (pl := [some (.ref o), some (.int v1)]) (M := jm_18) rfl rfl rfl rfl ?_
  refine jx_next (pc := 0) (pc' := 1) rfl rfl ?_
  refine jx_geti (pc := 1) rfl ho ?_
  refine jx_next (pc := 4) (pc' := 5) rfl rfl ?_
  refine jx_getr2 (pc := 5) rfl ho (jrm_2_0 ho) ?_
  refine jx_alen (pc := 8) rfl (jkm_2_0 ho) ⟨by decide, by decide⟩ ?_
  refine jx_icge (pc := 9) rfl (fun hc1 => ?_) (fun hc1 => ?_)
  · replace K := (if_pos hc1).symm.trans K
    refine jx_next (pc := 12) (pc' := 13) rfl rfl ?_
    refine jx_getr2 (pc := 13) rfl ho (jrm_2_0 ho) ?_
    refine jx_next (pc := 16) (pc' := 17) rfl rfl ?_
    refine jx_geti (pc := 17) rfl ho ?_
    refine jx_next (pc := 20) (pc' := 21) rfl rfl ?_
    refine jx_next (pc := 21) (pc' := 24) rfl rfl ?_
    refine jx_next (pc := 24) (pc' := 25) rfl rfl ?_
    obtain ⟨hg2, K⟩ := jguard K
    refine jx_iast2 (pc := 25) rfl (jkm_2_0 ho) rfl hg2 ?_
    refine jx_next (pc := 26) (pc' := 27) rfl rfl ?_
    refine jx_next (pc := 27) (pc' := 28) rfl rfl ?_
    refine jx_geti (pc := 28) rfl ho ?_
    refine jx_next (pc := 31) (pc' := 32) rfl rfl ?_
    refine jx_next (pc := 32) (pc' := 33) rfl rfl ?_
    refine jx_puti (pc := 33) rfl ho ?_
    obtain rfl := Option.some.inj K
    exact jx_ret (pc := 36) rfl rfl HQ
  · replace K := (if_neg hc1).symm.trans K
    obtain rfl := Option.some.inj K
    exact jx_ret (pc := 36) rfl rfl HQ
/-- AndGuest$Tape.putPair(I)V -/
noncomputable def fTp_putPair (o : Nat) (v1 : Int32) (h : jH) : Option jH :=
  (Option.bind (fTp_put o (v1 >>> (8 &&& 31)) h) (fun (z1 : jH) =>
  (Option.bind (fTp_put o v1 z1) (fun (z2 : jH) =>
  some z2))))
theorem kTp_putPair {X : jX} {dd : Nat} {p d : Nat} {q : Nat → Nat} {Q : Option Value → jS → Prop} {o : Nat} {v1 : Int32} {h : jH} (hP : jOK p d q) (ho : jcl 176 o = 2) (hd : 1 ≤ dd) {z : jH} (K : fTp_putPair o v1 h = some z) (HQ : Q none (176, jRf p d q, z)) :
    jCa X dd 17 [.ref o, .int v1] (176, jRf p d q, h) Q := by
  obtain ⟨dd, rfl⟩ : ∃ d9, dd = d9 + 1 := ⟨dd - 1, by omega⟩
  unfold fTp_putPair at K
  refine jCa_of (es := jc_17) (pl := [some (.ref o), some (.int v1)]) (M := jm_17) rfl rfl rfl rfl ?_
  refine jx_next (pc := 0) (pc' := 1) rfl rfl ?_
  refine jx_next (pc := 1) (pc' := 2) rfl rfl ?_
  refine jx_next (pc := 2) (pc' := 4) rfl rfl ?_
  refine jx_next (pc := 4) (pc' := 5) rfl rfl ?_
  refine jx_callv (pc := 5) (o := o) (rest := []) rfl ⟨by decide, by decide⟩ rfl ho (Nat.le_of_ble_eq_true rfl) ?_
  obtain ⟨z1, hz_z1, K⟩ := Option.bind_eq_some_iff.mp K
  refine kTp_put hP ho (by omega) hz_z1 ?_
  refine jx_next (pc := 8) (pc' := 9) rfl rfl ?_
  refine jx_next (pc := 9) (pc' := 10) rfl rfl ?_
  refine jx_callv (pc := 10) (o := o) (rest := []) rfl ⟨by decide, by decide⟩ rfl ho (Nat.le_of_ble_eq_true rfl) ?_
  obtain ⟨z2, hz_z2, K⟩ := Option.bind_eq_some_iff.mp K
  refine kTp_put hP ho (by omega) hz_z2 ?_
  obtain rfl := Option.some.inj K
  exact jx_ret (pc := 13) rfl rfl HQ
/-- AndGuest$Tape.putFour(I)V -/
noncomputable def fTp_putFour (o : Nat) (v1 : Int32) (h : jH) : Option jH :=
  (Option.bind (fTp_putPair o (v1 >>> (16 &&& 31)) h) (fun (z1 : jH) =>
  (Option.bind (fTp_putPair o v1 z1) (fun (z2 : jH) =>
  some z2))))
theorem kTp_putFour {X : jX} {dd : Nat} {p d : Nat} {q : Nat → Nat} {Q : Option Value → jS → Prop} {o : Nat} {v1 : Int32} {h : jH} (hP : jOK p d q) (ho : jcl 176 o = 2) (hd : 2 ≤ dd) {z : jH} (K : fTp_putFour o v1 h = some z) (HQ : Q none (176, jRf p d q, z)) :
    jCa X dd 16 [.ref o, .int v1] (176, jRf p d q, h) Q := by
  obtain ⟨dd, rfl⟩ : ∃ d9, dd = d9 + 1 := ⟨dd - 1, by omega⟩
  unfold fTp_putFour at K
  refine jCa_of (es := jc_16) (pl := [some (.ref o), some (.int v1)]) (M := jm_16) rfl rfl rfl rfl ?_
  refine jx_next (pc := 0) (pc' := 1) rfl rfl ?_
  refine jx_next (pc := 1) (pc' := 2) rfl rfl ?_
  refine jx_next (pc := 2) (pc' := 4) rfl rfl ?_
  refine jx_next (pc := 4) (pc' := 5) rfl rfl ?_
  refine jx_callv (pc := 5) (o := o) (rest := []) rfl ⟨by decide, by decide⟩ rfl ho (Nat.le_of_ble_eq_true rfl) ?_
  obtain ⟨z1, hz_z1, K⟩ := Option.bind_eq_some_iff.mp K
  refine kTp_putPair hP ho (by omega) hz_z1 ?_
  refine jx_next (pc := 8) (pc' := 9) rfl rfl ?_
  refine jx_next (pc := 9) (pc' := 10) rfl rfl ?_
  refine jx_callv (pc := 10) (o := o) (rest := []) rfl ⟨by decide, by decide⟩ rfl ho (Nat.le_of_ble_eq_true rfl) ?_
  obtain ⟨z2, hz_z2, K⟩ := Option.bind_eq_some_iff.mp K
  refine kTp_putPair hP ho (by omega) hz_z2 ?_
  obtain rfl := Option.some.inj K
  exact jx_ret (pc := 13) rfl rfl HQ
/-- AndGuest.feed(IIIII)I -/
noncomputable def fA_feed (v1 : Int32) (v2 : Int32) (v3 : Int32) (v4 : Int32) (v5 : Int32) (h : jH) : Option (Int32 × jH) :=
  (if 1600 < ((fTp_size 2 h) + 20) then
  (Option.bind (fA_refuse 0 h) (fun (z3 : jH) =>
  some ((-1), z3)))
  else
  (Option.bind (fTp_putFour 2 v1 h) (fun (z4 : jH) =>
  (Option.bind (fTp_putFour 2 v2 z4) (fun (z5 : jH) =>
  (Option.bind (fTp_putFour 2 v3 z5) (fun (z6 : jH) =>
  (Option.bind (fTp_putFour 2 v4 z6) (fun (z7 : jH) =>
  (Option.bind (fTp_putFour 2 v5 z7) (fun (z8 : jH) =>
  some ((fTp_size 2 z8), z8))))))))))))
theorem kA_feed {X : jX} {dd : Nat} {p d : Nat} {q : Nat → Nat} {Q : Option Value → jS → Prop} {v1 : Int32} {v2 : Int32} {v3 : Int32} {v4 : Int32} {v5 : Int32} {h : jH} (hP : jOK p d q)  (hd : 3 ≤ dd) {z : Int32 × jH} (K : fA_feed v1 v2 v3 v4 v5 h = some z) (HQ : Q (some (.int z.1)) (176, jRf p d q, z.2)) :
    jCa X dd 13 [.ref 1, .int v1, .int v2, .int v3, .int v4, .int v5] (176, jRf p d q, h) Q := by
  obtain ⟨dd, rfl⟩ : ∃ d9, dd = d9 + 1 := ⟨dd - 1, by omega⟩
  unfold fA_feed at K
  refine jCa_of (es := jc_13) (pl := [some (.ref 1), some (.int v1), some (.int v2), some (.int v3), some (.int v4), some (.int v5)]) (M := jm_13) rfl rfl rfl rfl ?_
  refine jx_next (pc := 0) (pc' := 1) rfl rfl ?_
  refine jx_getr2 (pc := 1) rfl jko_1 jr_1_0 ?_
  refine jx_callv (pc := 4) (o := 2) (rest := []) rfl ⟨by decide, by decide⟩ rfl jko_2 (Nat.le_of_ble_eq_true rfl) ?_
  refine kTp_size hP jko_2 (by omega) rfl ?_
  refine jx_next (pc := 7) (pc' := 9) rfl rfl ?_
  refine jx_next (pc := 9) (pc' := 10) rfl rfl ?_
  refine jx_next (pc := 10) (pc' := 13) rfl rfl ?_
  refine jx_icle (pc := 13) rfl (fun hc2 => ?_) (fun hc2 => ?_)
  · replace K := (if_pos hc2).symm.trans K
    refine jx_next (pc := 16) (pc' := 17) rfl rfl ?_
    refine jx_next (pc := 17) (pc' := 18) rfl rfl ?_
    refine jx_callv (pc := 18) (o := 1) (rest := []) rfl ⟨by decide, by decide⟩ rfl jko_1 (Nat.le_of_ble_eq_true rfl) ?_
    obtain ⟨z3, hz_z3, K⟩ := Option.bind_eq_some_iff.mp K
    refine kA_refuse hP (by omega) hz_z3 ?_
    refine jx_next (pc := 21) (pc' := 22) rfl rfl ?_
    obtain rfl := Option.some.inj K
    exact jx_iret (pc := 22) rfl HQ
  · replace K := (if_neg hc2).symm.trans K
    refine jx_next (pc := 23) (pc' := 24) rfl rfl ?_
    refine jx_getr2 (pc := 24) rfl jko_1 jr_1_0 ?_
    refine jx_next (pc := 27) (pc' := 28) rfl rfl ?_
    refine jx_callv (pc := 28) (o := 2) (rest := []) rfl ⟨by decide, by decide⟩ rfl jko_2 (Nat.le_of_ble_eq_true rfl) ?_
    obtain ⟨z4, hz_z4, K⟩ := Option.bind_eq_some_iff.mp K
    refine kTp_putFour hP jko_2 (by omega) hz_z4 ?_
    refine jx_next (pc := 31) (pc' := 32) rfl rfl ?_
    refine jx_getr2 (pc := 32) rfl jko_1 jr_1_0 ?_
    refine jx_next (pc := 35) (pc' := 36) rfl rfl ?_
    refine jx_callv (pc := 36) (o := 2) (rest := []) rfl ⟨by decide, by decide⟩ rfl jko_2 (Nat.le_of_ble_eq_true rfl) ?_
    obtain ⟨z5, hz_z5, K⟩ := Option.bind_eq_some_iff.mp K
    refine kTp_putFour hP jko_2 (by omega) hz_z5 ?_
    refine jx_next (pc := 39) (pc' := 40) rfl rfl ?_
    refine jx_getr2 (pc := 40) rfl jko_1 jr_1_0 ?_
    refine jx_next (pc := 43) (pc' := 44) rfl rfl ?_
    refine jx_callv (pc := 44) (o := 2) (rest := []) rfl ⟨by decide, by decide⟩ rfl jko_2 (Nat.le_of_ble_eq_true rfl) ?_
    obtain ⟨z6, hz_z6, K⟩ := Option.bind_eq_some_iff.mp K
    refine kTp_putFour hP jko_2 (by omega) hz_z6 ?_
    refine jx_next (pc := 47) (pc' := 48) rfl rfl ?_
    refine jx_getr2 (pc := 48) rfl jko_1 jr_1_0 ?_
    refine jx_next (pc := 51) (pc' := 53) rfl rfl ?_
    refine jx_callv (pc := 53) (o := 2) (rest := []) rfl ⟨by decide, by decide⟩ rfl jko_2 (Nat.le_of_ble_eq_true rfl) ?_
    obtain ⟨z7, hz_z7, K⟩ := Option.bind_eq_some_iff.mp K
    refine kTp_putFour hP jko_2 (by omega) hz_z7 ?_
    refine jx_next (pc := 56) (pc' := 57) rfl rfl ?_
    refine jx_getr2 (pc := 57) rfl jko_1 jr_1_0 ?_
    refine jx_next (pc := 60) (pc' := 62) rfl rfl ?_
    refine jx_callv (pc := 62) (o := 2) (rest := []) rfl ⟨by decide, by decide⟩ rfl jko_2 (Nat.le_of_ble_eq_true rfl) ?_
    obtain ⟨z8, hz_z8, K⟩ := Option.bind_eq_some_iff.mp K
    refine kTp_putFour hP jko_2 (by omega) hz_z8 ?_
    refine jx_next (pc := 65) (pc' := 66) rfl rfl ?_
    refine jx_getr2 (pc := 66) rfl jko_1 jr_1_0 ?_
    refine jx_callv (pc := 69) (o := 2) (rest := []) rfl ⟨by decide, by decide⟩ rfl jko_2 (Nat.le_of_ble_eq_true rfl) ?_
    refine kTp_size hP jko_2 (by omega) rfl ?_
    obtain rfl := Option.some.inj K
    exact jx_iret (pc := 72) rfl HQ
/-- AndGuest$Tape.cut(I)V -/
noncomputable def fTp_cut (o : Nat) (v1 : Int32) (h : jH) : jH :=
  (if v1 < 0 then
  h
  else
  (if (h.1 o 1) < v1 then
  h
  else
  jhI h o 1 v1))
theorem kTp_cut {X : jX} {dd : Nat} {p d : Nat} {q : Nat → Nat} {Q : Option Value → jS → Prop} {o : Nat} {v1 : Int32} {h : jH} (hP : jOK p d q) (ho : jcl 176 o = 2) (hd : 0 ≤ dd) {z : jH} (K : fTp_cut o v1 h = z) (HQ : Q none (176, jRf p d q, z)) :
    jCa X dd 20 [.ref o, .int v1] (176, jRf p d q, h) Q := by
  unfold fTp_cut at K
  refine jCa_of (es := jc_20) (pl := [some (.ref o), some (.int v1)]) (M := jm_20) rfl rfl rfl rfl ?_
  refine jx_next (pc := 0) (pc' := 1) rfl rfl ?_
  refine jx_iflt (pc := 1) rfl (fun hc1 => ?_) (fun hc1 => ?_)
  · replace K := (if_pos hc1).symm.trans K
    obtain rfl := K
    exact jx_ret (pc := 17) rfl rfl HQ
  · replace K := (if_neg hc1).symm.trans K
    refine jx_next (pc := 4) (pc' := 5) rfl rfl ?_
    refine jx_next (pc := 5) (pc' := 6) rfl rfl ?_
    refine jx_geti (pc := 6) rfl ho ?_
    refine jx_icgt (pc := 9) rfl (fun hc2 => ?_) (fun hc2 => ?_)
    · replace K := (if_pos hc2).symm.trans K
      obtain rfl := K
      exact jx_ret (pc := 17) rfl rfl HQ
    · replace K := (if_neg hc2).symm.trans K
      refine jx_next (pc := 12) (pc' := 13) rfl rfl ?_
      refine jx_next (pc := 13) (pc' := 14) rfl rfl ?_
      refine jx_puti (pc := 14) rfl ho ?_
      obtain rfl := K
      exact jx_ret (pc := 17) rfl rfl HQ
noncomputable def fA_end_j15  (h : jH) : Option (Int32 × jH) :=
  (Option.bind (fA_refuse 0 h) (fun (z2 : jH) =>
  some (0, z2)))
theorem kA_end_j15 {X : jX} {dd : Nat} {p d : Nat} {q : Nat → Nat} {Q : Option Value → jS → Prop}  {h : jH} (hP : jOK p d q)  (hd : 1 ≤ (dd + 1)) {z : Int32 × jH} (K : fA_end_j15  h = some z) (HQ : Q (some (.int z.1)) (176, jRf p d q, z.2)) :
    jEx X (dd + 1) jc_19 15 [some (.ref 1), none] [] (176, jRf p d q, h) Q := by
  unfold fA_end_j15 at K
  refine jx_next (pc := 15) (pc' := 16) rfl rfl ?_
  refine jx_next (pc := 16) (pc' := 17) rfl rfl ?_
  refine jx_callv (pc := 17) (o := 1) (rest := []) rfl ⟨by decide, by decide⟩ rfl jko_1 (Nat.le_of_ble_eq_true rfl) ?_
  obtain ⟨z2, hz_z2, K⟩ := Option.bind_eq_some_iff.mp K
  refine kA_refuse hP (by omega) hz_z2 ?_
  refine jx_next (pc := 20) (pc' := 21) rfl rfl ?_
  obtain rfl := Option.some.inj K
  exact jx_zret (pc := 21) rfl (Or.inl rfl) HQ
/-- AndGuest.end(I)Z -/
noncomputable def fA_end (v1 : Int32) (h : jH) : Option (Int32 × jH) :=
  (if v1 < 0 then
  fA_end_j15  h
  else
  (if (fTp_size 2 h) < v1 then
  fA_end_j15  h
  else
  some (1, (fTp_cut 2 v1 h))))
theorem kA_end {X : jX} {dd : Nat} {p d : Nat} {q : Nat → Nat} {Q : Option Value → jS → Prop} {v1 : Int32} {h : jH} (hP : jOK p d q)  (hd : 1 ≤ dd) {z : Int32 × jH} (K : fA_end v1 h = some z) (HQ : Q (some (.int z.1)) (176, jRf p d q, z.2)) :
    jCa X dd 19 [.ref 1, .int v1] (176, jRf p d q, h) Q := by
  obtain ⟨dd, rfl⟩ : ∃ d9, dd = d9 + 1 := ⟨dd - 1, by omega⟩
  unfold fA_end at K
  refine jCa_of (es := jc_19) (pl := [some (.ref 1), some (.int v1)]) (M := jm_19) rfl rfl rfl rfl ?_
  refine jx_next (pc := 0) (pc' := 1) rfl rfl ?_
  refine jx_iflt (pc := 1) rfl (fun hc1 => ?_) (fun hc1 => ?_)
  · replace K := (if_pos hc1).symm.trans K
    refine jx_le (pl' := [some (.ref 1), none]) (jle_v (jle_n jle_nil)) ?_
    exact kA_end_j15 hP  hd K HQ
  · replace K := (if_neg hc1).symm.trans K
    refine jx_next (pc := 4) (pc' := 5) rfl rfl ?_
    refine jx_next (pc := 5) (pc' := 6) rfl rfl ?_
    refine jx_getr2 (pc := 6) rfl jko_1 jr_1_0 ?_
    refine jx_callv (pc := 9) (o := 2) (rest := [.int v1]) rfl ⟨by decide, by decide⟩ rfl jko_2 (Nat.le_of_ble_eq_true rfl) ?_
    refine kTp_size hP jko_2 (by omega) rfl ?_
    refine jx_icle (pc := 12) rfl (fun hc4 => ?_) (fun hc4 => ?_)
    · replace K := (if_pos hc4).symm.trans K
      refine jx_le (pl' := [some (.ref 1), none]) (jle_v (jle_n jle_nil)) ?_
      exact kA_end_j15 hP  hd K HQ
    · replace K := (if_neg hc4).symm.trans K
      refine jx_next (pc := 22) (pc' := 23) rfl rfl ?_
      refine jx_getr2 (pc := 23) rfl jko_1 jr_1_0 ?_
      refine jx_next (pc := 26) (pc' := 27) rfl rfl ?_
      refine jx_callv (pc := 27) (o := 2) (rest := []) rfl ⟨by decide, by decide⟩ rfl jko_2 (Nat.le_of_ble_eq_true rfl) ?_
      refine kTp_cut hP jko_2 (by omega) rfl ?_
      refine jx_next (pc := 30) (pc' := 31) rfl rfl ?_
      obtain rfl := Option.some.inj K
      exact jx_zret (pc := 31) rfl (Or.inr rfl) HQ
/-- AndGuest$Formula.clear()V -/
noncomputable def fFo_clear (o : Nat) (h : jH) : jH :=
  jhI h o 2 0
theorem kFo_clear {X : jX} {dd : Nat} {p d : Nat} {q : Nat → Nat} {Q : Option Value → jS → Prop} {o : Nat} {h : jH} (hP : jOK p d q) (ho : jcl 176 o = 5) (hd : 0 ≤ dd) {z : jH} (K : fFo_clear o h = z) (HQ : Q none (176, jRf p d q, z)) :
    jCa X dd 24 [.ref o] (176, jRf p d q, h) Q := by
  unfold fFo_clear at K
  refine jCa_of (es := jc_24) (pl := [some (.ref o)]) (M := jm_24) rfl rfl rfl rfl ?_
  refine jx_next (pc := 0) (pc' := 1) rfl rfl ?_
  refine jx_next (pc := 1) (pc' := 2) rfl rfl ?_
  refine jx_puti (pc := 2) rfl ho ?_
  obtain rfl := K
  exact jx_ret (pc := 5) rfl rfl HQ
noncomputable def fPn_clear_l40_b (o : Nat) (v1 : Int32) (h : jH) : Option ((Int32 × jH) ⊕ (jH)) :=
  (if v1 < 8 then
  (if jin v1 8 then
  (if jin v1 8 then
  (if jin v1 8 then
  some (.inl (v1 + 1, jhI (jhI (jhI h (o + 6) v1.toNatClampNeg 0) (o + 7) v1.toNatClampNeg 0) (o + 8) v1.toNatClampNeg 0))
  else none)
  else none)
  else none)
  else
  some (.inr h))
noncomputable def fPn_clear_l40 (o : Nat) : (Int32 × jH) → Option ((Int32 × jH) ⊕ (jH)) :=
  fun (s : Int32 × jH) => fPn_clear_l40_b o s.1 s.2
theorem kPn_clear_l40_b {X : jX} {dd : Nat} {p d : Nat} {q : Nat → Nat} {Q : Option Value → jS → Prop} {o : Nat} {v1 : Int32} {h : jH} (hP : jOK p d q) (ho : jcl 176 o = 10) (hd : 1 ≤ (dd + 1)) {z : (Int32 × jH) ⊕ (jH)} (K : fPn_clear_l40_b o v1 h = some z) (HL : ∀ s : Int32 × jH, z = .inl s → jEx X (dd + 1) jc_23 40 [some (.ref o), some (.int s.1)] [] (176, jRf p d q, s.2) Q) (HE0 : ∀ x : jH, z = .inr x → jEx X (dd + 1) jc_23 73 [none, none] [] (176, jRf p d q, x) Q) :
    jEx X (dd + 1) jc_23 40 [some (.ref o), some (.int v1)] [] (176, jRf p d q, h) Q := by
  unfold fPn_clear_l40_b at K
  refine jx_next (pc := 40) (pc' := 41) rfl rfl ?_
  refine jx_next (pc := 41) (pc' := 43) rfl rfl ?_
  refine jx_icge (pc := 43) rfl (fun hc2 => ?_) (fun hc2 => ?_)
  · replace K := (if_pos hc2).symm.trans K
    refine jx_next (pc := 46) (pc' := 47) rfl rfl ?_
    refine jx_getr2 (pc := 47) rfl ho (jrm_10_15 ho) ?_
    refine jx_next (pc := 50) (pc' := 51) rfl rfl ?_
    refine jx_next (pc := 51) (pc' := 52) rfl rfl ?_
    obtain ⟨hg3, K⟩ := jguard K
    refine jx_iast2 (pc := 52) rfl (jkm_10_15 ho) (jnm_10_15 ho) hg3 ?_
    refine jx_next (pc := 53) (pc' := 54) rfl rfl ?_
    refine jx_getr2 (pc := 54) rfl ho (jrm_10_16 ho) ?_
    refine jx_next (pc := 57) (pc' := 58) rfl rfl ?_
    refine jx_next (pc := 58) (pc' := 59) rfl rfl ?_
    obtain ⟨hg4, K⟩ := jguard K
    refine jx_iast2 (pc := 59) rfl (jkm_10_16 ho) (jnm_10_16 ho) hg4 ?_
    refine jx_next (pc := 60) (pc' := 61) rfl rfl ?_
    refine jx_getr2 (pc := 61) rfl ho (jrm_10_17 ho) ?_
    refine jx_next (pc := 64) (pc' := 65) rfl rfl ?_
    refine jx_next (pc := 65) (pc' := 66) rfl rfl ?_
    obtain ⟨hg5, K⟩ := jguard K
    refine jx_iast2 (pc := 66) rfl (jkm_10_17 ho) (jnm_10_17 ho) hg5 ?_
    refine jx_inc (pc := 67) (x := v1) (p2 := [some (.ref o), some (.int (v1 + 1))]) rfl rfl (jlt rfl) rfl ?_
    refine jx_next (pc := 70) (pc' := 40) rfl rfl ?_
    obtain rfl := Option.some.inj K
    refine jx_le (pl' := [some (.ref o), some (.int (v1 + 1))]) (jle_v (jle_v jle_nil)) ?_
    exact HL (v1 + 1, jhI (jhI (jhI h (o + 6) v1.toNatClampNeg 0) (o + 7) v1.toNatClampNeg 0) (o + 8) v1.toNatClampNeg 0) rfl
  · replace K := (if_neg hc2).symm.trans K
    obtain rfl := Option.some.inj K
    refine jx_le (pl' := [none, none]) (jle_n (jle_n jle_nil)) ?_
    exact HE0 _ rfl
theorem kPn_clear_l40_w {X : jX} {dd : Nat} {p d : Nat} {q : Nat → Nat} {Q : Option Value → jS → Prop} {o : Nat} (hP : jOK p d q) (ho : jcl 176 o = 10) (hd : 1 ≤ (dd + 1)) {s : Int32 × jH} {x : jH} (K : jlim (fPn_clear_l40 o) s = some x) (HE : jEx X (dd + 1) jc_23 73 [none, none] [] (176, jRf p d q, x) Q) :
    jEx X (dd + 1) jc_23 40 [some (.ref o), some (.int s.1)] [] (176, jRf p d q, s.2) Q := by
  refine jlim_ok (G := fun s : Int32 × jH => jEx X (dd + 1) jc_23 40 [some (.ref o), some (.int s.1)] [] (176, jRf p d q, s.2) Q) (GX := fun x : jH => jEx X (dd + 1) jc_23 73 [none, none] [] (176, jRf p d q, x) Q) (fun s z hz HL HE => ?_) K HE
  exact kPn_clear_l40_b hP ho hd hz HL HE
/-- AndGuest$Plan.clear()V -/
noncomputable def fPn_clear (o : Nat) (h : jH) : Option jH :=
  (Option.bind (jlim (fPn_clear_l40  o) (0, (fFo_clear (o + 9) (jhI (jhI (jhI (jhI (jhI (jhI h o 0 0) o 1 0) o 2 0) o 7 5) o 8 50) o 9 2)))) (fun (x6 : jH) =>
  some x6))
theorem kPn_clear {X : jX} {dd : Nat} {p d : Nat} {q : Nat → Nat} {Q : Option Value → jS → Prop} {o : Nat} {h : jH} (hP : jOK p d q) (ho : jcl 176 o = 10) (hd : 1 ≤ dd) {z : jH} (K : fPn_clear o h = some z) (HQ : Q none (176, jRf p d q, z)) :
    jCa X dd 23 [.ref o] (176, jRf p d q, h) Q := by
  obtain ⟨dd, rfl⟩ : ∃ d9, dd = d9 + 1 := ⟨dd - 1, by omega⟩
  unfold fPn_clear at K
  refine jCa_of (es := jc_23) (pl := [some (.ref o), none]) (M := jm_23) rfl rfl rfl rfl ?_
  refine jx_next (pc := 0) (pc' := 1) rfl rfl ?_
  refine jx_next (pc := 1) (pc' := 2) rfl rfl ?_
  refine jx_puti (pc := 2) rfl ho ?_
  refine jx_next (pc := 5) (pc' := 6) rfl rfl ?_
  refine jx_next (pc := 6) (pc' := 7) rfl rfl ?_
  refine jx_puti (pc := 7) rfl ho ?_
  refine jx_next (pc := 10) (pc' := 11) rfl rfl ?_
  refine jx_next (pc := 11) (pc' := 12) rfl rfl ?_
  refine jx_puti (pc := 12) rfl ho ?_
  refine jx_next (pc := 15) (pc' := 16) rfl rfl ?_
  refine jx_next (pc := 16) (pc' := 17) rfl rfl ?_
  refine jx_puti (pc := 17) rfl ho ?_
  refine jx_next (pc := 20) (pc' := 21) rfl rfl ?_
  refine jx_next (pc := 21) (pc' := 23) rfl rfl ?_
  refine jx_puti (pc := 23) rfl ho ?_
  refine jx_next (pc := 26) (pc' := 27) rfl rfl ?_
  refine jx_next (pc := 27) (pc' := 28) rfl rfl ?_
  refine jx_puti (pc := 28) rfl ho ?_
  refine jx_next (pc := 31) (pc' := 32) rfl rfl ?_
  refine jx_getr2 (pc := 32) rfl ho (jrm_10_18 ho) ?_
  refine jx_callv (pc := 35) (o := (o + 9)) (rest := []) rfl ⟨by decide, by decide⟩ rfl (jkm_10_18 ho) (Nat.le_of_ble_eq_true rfl) ?_
  refine kFo_clear hP (jkm_10_18 ho) (by omega) rfl ?_
  refine jx_next (pc := 38) (pc' := 39) rfl rfl ?_
  refine jx_stin (pc := 39) (p2 := [some (.ref o), some (.int 0)]) rfl (jlt rfl) rfl ?_
  refine jx_le (pl' := [some (.ref o), some (.int 0)]) (jle_v (jle_v jle_nil)) ?_
  obtain ⟨x6, hz_x6, K⟩ := Option.bind_eq_some_iff.mp K
  refine kPn_clear_l40_w hP ho hd hz_x6 ?_
  obtain rfl := Option.some.inj K
  exact jx_ret (pc := 73) rfl rfl HQ
/-- AndGuest$Tape.byteAt(I)I -/
noncomputable def fTp_byteAt (o : Nat) (v1 : Int32) (h : jH) : Option Int32 :=
  (if v1 < 0 then
  some ((-1) : Int32)
  else
  (if v1 < (h.1 o 1) then
  (if v1 < (Int32.ofNat (jsh (o + 1)).2) then
  (if jin v1 (jsh (o + 1)).2 then
  some (h.1 (o + 1) v1.toNatClampNeg : Int32)
  else none)
  else
  some ((-1) : Int32))
  else
  some ((-1) : Int32)))
theorem kTp_byteAt {X : jX} {dd : Nat} {p d : Nat} {q : Nat → Nat} {Q : Option Value → jS → Prop} {o : Nat} {v1 : Int32} {h : jH} (hP : jOK p d q) (ho : jcl 176 o = 2) (hd : 0 ≤ dd) {z : Int32} (K : fTp_byteAt o v1 h = some z) (HQ : Q (some (.int z)) (176, jRf p d q, h)) :
    jCa X dd 27 [.ref o, .int v1] (176, jRf p d q, h) Q := by
  unfold fTp_byteAt at K
  refine jCa_of (es := jc_27) (pl := [some (.ref o), some (.int v1)]) (M := jm_27) rfl rfl rfl rfl ?_
  refine jx_next (pc := 0) (pc' := 1) rfl rfl ?_
  refine jx_iflt (pc := 1) rfl (fun hc1 => ?_) (fun hc1 => ?_)
  · replace K := (if_pos hc1).symm.trans K
    refine jx_next (pc := 30) (pc' := 31) rfl rfl ?_
    obtain rfl := Option.some.inj K
    exact jx_iret (pc := 31) rfl HQ
  · replace K := (if_neg hc1).symm.trans K
    refine jx_next (pc := 4) (pc' := 5) rfl rfl ?_
    refine jx_next (pc := 5) (pc' := 6) rfl rfl ?_
    refine jx_geti (pc := 6) rfl ho ?_
    refine jx_icge (pc := 9) rfl (fun hc2 => ?_) (fun hc2 => ?_)
    · replace K := (if_pos hc2).symm.trans K
      refine jx_next (pc := 12) (pc' := 13) rfl rfl ?_
      refine jx_next (pc := 13) (pc' := 14) rfl rfl ?_
      refine jx_getr2 (pc := 14) rfl ho (jrm_2_0 ho) ?_
      refine jx_alen (pc := 17) rfl (jkm_2_0 ho) ⟨by decide, by decide⟩ ?_
      refine jx_icge (pc := 18) rfl (fun hc3 => ?_) (fun hc3 => ?_)
      · replace K := (if_pos hc3).symm.trans K
        refine jx_next (pc := 21) (pc' := 22) rfl rfl ?_
        refine jx_getr2 (pc := 22) rfl ho (jrm_2_0 ho) ?_
        refine jx_next (pc := 25) (pc' := 26) rfl rfl ?_
        obtain ⟨hg4, K⟩ := jguard K
        refine jx_iald2 (pc := 26) rfl (jkm_2_0 ho) rfl hg4 ?_
        refine jx_next (pc := 27) (pc' := 31) rfl rfl ?_
        obtain rfl := Option.some.inj K
        exact jx_iret (pc := 31) rfl HQ
      · replace K := (if_neg hc3).symm.trans K
        refine jx_next (pc := 30) (pc' := 31) rfl rfl ?_
        obtain rfl := Option.some.inj K
        exact jx_iret (pc := 31) rfl HQ
    · replace K := (if_neg hc2).symm.trans K
      refine jx_next (pc := 30) (pc' := 31) rfl rfl ?_
      obtain rfl := Option.some.inj K
      exact jx_iret (pc := 31) rfl HQ
/-- AndGuest$Reader.isBlank(I)Z -/
noncomputable def fRd_isBlank (v0 : Int32) : Int32 :=
  (if v0 = 32 then
  (1 : Int32)
  else
  (if v0 = 10 then
  (1 : Int32)
  else
  (0 : Int32)))
theorem kRd_isBlank {X : jX} {dd : Nat} {p d : Nat} {q : Nat → Nat} {Q : Option Value → jS → Prop} {v0 : Int32} {h : jH}  (hd : 0 ≤ dd) {z : Int32} (K : fRd_isBlank v0 = z) (HQ : Q (some (.int z)) (176, jRf p d q, h)) :
    jCa X dd 28 [.int v0] (176, jRf p d q, h) Q := by
  unfold fRd_isBlank at K
  refine jCa_of (es := jc_28) (pl := [some (.int v0)]) (M := jm_28) rfl rfl rfl rfl ?_
  refine jx_next (pc := 0) (pc' := 1) rfl rfl ?_
  refine jx_next (pc := 1) (pc' := 3) rfl rfl ?_
  refine jx_iceq (pc := 3) rfl (fun hc1 => ?_) (fun hc1 => ?_)
  · replace K := (if_pos hc1).symm.trans K
    refine jx_next (pc := 12) (pc' := 13) rfl rfl ?_
    refine jx_next (pc := 13) (pc' := 17) rfl rfl ?_
    obtain rfl := K
    exact jx_zret (pc := 17) rfl (Or.inr rfl) HQ
  · replace K := (if_neg hc1).symm.trans K
    refine jx_next (pc := 6) (pc' := 7) rfl rfl ?_
    refine jx_next (pc := 7) (pc' := 9) rfl rfl ?_
    refine jx_icne (pc := 9) rfl (fun hc2 => ?_) (fun hc2 => ?_)
    · replace K := (if_pos hc2).symm.trans K
      refine jx_next (pc := 12) (pc' := 13) rfl rfl ?_
      refine jx_next (pc := 13) (pc' := 17) rfl rfl ?_
      obtain rfl := K
      exact jx_zret (pc := 17) rfl (Or.inr rfl) HQ
    · replace K := (if_neg hc2).symm.trans K
      refine jx_next (pc := 16) (pc' := 17) rfl rfl ?_
      obtain rfl := K
      exact jx_zret (pc := 17) rfl (Or.inl rfl) HQ
noncomputable def fRd_sortOf_j21 (v0 : Int32) (h : jH) : Int32 :=
  (if v0 < 48 then
  (3 : Int32)
  else
  (if 57 < v0 then
  (3 : Int32)
  else
  (2 : Int32)))
theorem kRd_sortOf_j21 {X : jX} {dd : Nat} {p d : Nat} {q : Nat → Nat} {Q : Option Value → jS → Prop} {v0 : Int32} {h : jH} (hP : jOK p d q)  (hd : 0 ≤ dd) {z : Int32} (K : fRd_sortOf_j21 v0 h = z) (HQ : Q (some (.int z)) (176, jRf p d q, h)) :
    jEx X dd jc_29 21 [some (.int v0)] [] (176, jRf p d q, h) Q := by
  unfold fRd_sortOf_j21 at K
  refine jx_next (pc := 21) (pc' := 22) rfl rfl ?_
  refine jx_next (pc := 22) (pc' := 24) rfl rfl ?_
  refine jx_iclt (pc := 24) rfl (fun hc3 => ?_) (fun hc3 => ?_)
  · replace K := (if_pos hc3).symm.trans K
    refine jx_next (pc := 37) (pc' := 38) rfl rfl ?_
    obtain rfl := K
    exact jx_iret (pc := 38) rfl HQ
  · replace K := (if_neg hc3).symm.trans K
    refine jx_next (pc := 27) (pc' := 28) rfl rfl ?_
    refine jx_next (pc := 28) (pc' := 30) rfl rfl ?_
    refine jx_icgt (pc := 30) rfl (fun hc4 => ?_) (fun hc4 => ?_)
    · replace K := (if_pos hc4).symm.trans K
      refine jx_next (pc := 37) (pc' := 38) rfl rfl ?_
      obtain rfl := K
      exact jx_iret (pc := 38) rfl HQ
    · replace K := (if_neg hc4).symm.trans K
      refine jx_next (pc := 33) (pc' := 34) rfl rfl ?_
      refine jx_next (pc := 34) (pc' := 38) rfl rfl ?_
      obtain rfl := K
      exact jx_iret (pc := 38) rfl HQ
/-- AndGuest$Reader.sortOf(I)I -/
noncomputable def fRd_sortOf (v0 : Int32) (h : jH) : Int32 :=
  (if v0 = (-1) then
  (0 : Int32)
  else
  (if v0 < 97 then
  fRd_sortOf_j21  v0 h
  else
  (if 122 < v0 then
  fRd_sortOf_j21  v0 h
  else
  (1 : Int32))))
theorem kRd_sortOf {X : jX} {dd : Nat} {p d : Nat} {q : Nat → Nat} {Q : Option Value → jS → Prop} {v0 : Int32} {h : jH} (hP : jOK p d q)  (hd : 0 ≤ dd) {z : Int32} (K : fRd_sortOf v0 h = z) (HQ : Q (some (.int z)) (176, jRf p d q, h)) :
    jCa X dd 29 [.int v0] (176, jRf p d q, h) Q := by
  unfold fRd_sortOf at K
  refine jCa_of (es := jc_29) (pl := [some (.int v0)]) (M := jm_29) rfl rfl rfl rfl ?_
  refine jx_next (pc := 0) (pc' := 1) rfl rfl ?_
  refine jx_next (pc := 1) (pc' := 2) rfl rfl ?_
  refine jx_icne (pc := 2) rfl (fun hc1 => ?_) (fun hc1 => ?_)
  · replace K := (if_pos hc1).symm.trans K
    refine jx_next (pc := 5) (pc' := 6) rfl rfl ?_
    obtain rfl := K
    exact jx_iret (pc := 6) rfl HQ
  · replace K := (if_neg hc1).symm.trans K
    refine jx_next (pc := 7) (pc' := 8) rfl rfl ?_
    refine jx_next (pc := 8) (pc' := 10) rfl rfl ?_
    refine jx_iclt (pc := 10) rfl (fun hc2 => ?_) (fun hc2 => ?_)
    · replace K := (if_pos hc2).symm.trans K
      refine jx_le (pl' := [some (.int v0)]) (jle_v jle_nil) ?_
      exact kRd_sortOf_j21 hP  hd K HQ
    · replace K := (if_neg hc2).symm.trans K
      refine jx_next (pc := 13) (pc' := 14) rfl rfl ?_
      refine jx_next (pc := 14) (pc' := 16) rfl rfl ?_
      refine jx_icgt (pc := 16) rfl (fun hc5 => ?_) (fun hc5 => ?_)
      · replace K := (if_pos hc5).symm.trans K
        refine jx_le (pl' := [some (.int v0)]) (jle_v jle_nil) ?_
        exact kRd_sortOf_j21 hP  hd K HQ
      · replace K := (if_neg hc5).symm.trans K
        refine jx_next (pc := 19) (pc' := 20) rfl rfl ?_
        obtain rfl := K
        exact jx_iret (pc := 20) rfl HQ
/-- java/lang/Math.min(II)I -/
noncomputable def fMt_min (v0 : Int32) (v1 : Int32) : Int32 :=
  (if v1 < v0 then
  (v1 : Int32)
  else
  (v0 : Int32))
theorem kMt_min {X : jX} {dd : Nat} {p d : Nat} {q : Nat → Nat} {Q : Option Value → jS → Prop} {v0 : Int32} {v1 : Int32} {h : jH}  (hd : 0 ≤ dd) {z : Int32} (K : fMt_min v0 v1 = z) (HQ : Q (some (.int z)) (176, jRf p d q, h)) :
    jCa X dd 30 [.int v0, .int v1] (176, jRf p d q, h) Q := by
  unfold fMt_min at K
  refine jCa_of (es := jc_30) (pl := [some (.int v0), some (.int v1)]) (M := jm_30) rfl rfl rfl rfl ?_
  refine jx_next (pc := 0) (pc' := 1) rfl rfl ?_
  refine jx_next (pc := 1) (pc' := 2) rfl rfl ?_
  refine jx_icgt (pc := 2) rfl (fun hc1 => ?_) (fun hc1 => ?_)
  · replace K := (if_pos hc1).symm.trans K
    refine jx_next (pc := 9) (pc' := 10) rfl rfl ?_
    obtain rfl := K
    exact jx_iret (pc := 10) rfl HQ
  · replace K := (if_neg hc1).symm.trans K
    refine jx_next (pc := 5) (pc' := 6) rfl rfl ?_
    refine jx_next (pc := 6) (pc' := 10) rfl rfl ?_
    obtain rfl := K
    exact jx_iret (pc := 10) rfl HQ
noncomputable def fWd_withLetter_j15 (v0 : Int32) (v1 : Int32) (v2 : Int32) (s0 : Int32) (h : jH) : Int32 :=
  (if s0 = 0 then
  (0 : Int32)
  else
  (v0 ||| (((v2 - 97) + 1) <<< ((5 * v1) &&& 31)) : Int32))
theorem kWd_withLetter_j15 {X : jX} {dd : Nat} {p d : Nat} {q : Nat → Nat} {Q : Option Value → jS → Prop} {v0 : Int32} {v1 : Int32} {v2 : Int32} {s0 : Int32} {h : jH} (hP : jOK p d q)  (hd : 0 ≤ dd) {z : Int32} (K : fWd_withLetter_j15 v0 v1 v2 s0 h = z) (HQ : Q (some (.int z)) (176, jRf p d q, h)) :
    jEx X dd jc_31 15 [some (.int v0), some (.int v1), some (.int v2), none] [.int s0] (176, jRf p d q, h) Q := by
  unfold fWd_withLetter_j15 at K
  refine jx_stin (pc := 15) (p2 := [some (.int v0), some (.int v1), some (.int v2), some (.int s0)]) rfl (jlt rfl) rfl ?_
  refine jx_next (pc := 16) (pc' := 17) rfl rfl ?_
  refine jx_ifeq (pc := 17) rfl (fun hc2 => ?_) (fun hc2 => ?_)
  · replace K := (if_pos hc2).symm.trans K
    refine jx_next (pc := 35) (pc' := 36) rfl rfl ?_
    obtain rfl := K
    exact jx_iret (pc := 36) rfl HQ
  · replace K := (if_neg hc2).symm.trans K
    refine jx_next (pc := 20) (pc' := 21) rfl rfl ?_
    refine jx_next (pc := 21) (pc' := 22) rfl rfl ?_
    refine jx_next (pc := 22) (pc' := 24) rfl rfl ?_
    refine jx_next (pc := 24) (pc' := 25) rfl rfl ?_
    refine jx_next (pc := 25) (pc' := 26) rfl rfl ?_
    refine jx_next (pc := 26) (pc' := 27) rfl rfl ?_
    refine jx_next (pc := 27) (pc' := 28) rfl rfl ?_
    refine jx_next (pc := 28) (pc' := 29) rfl rfl ?_
    refine jx_next (pc := 29) (pc' := 30) rfl rfl ?_
    refine jx_next (pc := 30) (pc' := 31) rfl rfl ?_
    refine jx_next (pc := 31) (pc' := 32) rfl rfl ?_
    refine jx_next (pc := 32) (pc' := 36) rfl rfl ?_
    obtain rfl := K
    exact jx_iret (pc := 36) rfl HQ
noncomputable def fWd_withLetter_j14 (v0 : Int32) (v1 : Int32) (v2 : Int32) (h : jH) : Int32 :=
  fWd_withLetter_j15  v0 v1 v2 0 h
theorem kWd_withLetter_j14 {X : jX} {dd : Nat} {p d : Nat} {q : Nat → Nat} {Q : Option Value → jS → Prop} {v0 : Int32} {v1 : Int32} {v2 : Int32} {h : jH} (hP : jOK p d q)  (hd : 0 ≤ dd) {z : Int32} (K : fWd_withLetter_j14 v0 v1 v2 h = z) (HQ : Q (some (.int z)) (176, jRf p d q, h)) :
    jEx X dd jc_31 14 [some (.int v0), some (.int v1), some (.int v2), none] [] (176, jRf p d q, h) Q := by
  unfold fWd_withLetter_j14 at K
  refine jx_next (pc := 14) (pc' := 15) rfl rfl ?_
  refine jx_le (pl' := [some (.int v0), some (.int v1), some (.int v2), none]) (jle_v (jle_v (jle_v (jle_n jle_nil)))) ?_
  exact kWd_withLetter_j15 hP  hd K HQ
/-- AndGuest$Word.withLetter(III)I -/
noncomputable def fWd_withLetter (v0 : Int32) (v1 : Int32) (v2 : Int32) (h : jH) : Int32 :=
  (if v1 < 0 then
  fWd_withLetter_j14  v0 v1 v2 h
  else
  (if v1 < 6 then
  fWd_withLetter_j15  v0 v1 v2 1 h
  else
  fWd_withLetter_j14  v0 v1 v2 h))
theorem kWd_withLetter {X : jX} {dd : Nat} {p d : Nat} {q : Nat → Nat} {Q : Option Value → jS → Prop} {v0 : Int32} {v1 : Int32} {v2 : Int32} {h : jH} (hP : jOK p d q)  (hd : 0 ≤ dd) {z : Int32} (K : fWd_withLetter v0 v1 v2 h = z) (HQ : Q (some (.int z)) (176, jRf p d q, h)) :
    jCa X dd 31 [.int v0, .int v1, .int v2] (176, jRf p d q, h) Q := by
  unfold fWd_withLetter at K
  refine jCa_of (es := jc_31) (pl := [some (.int v0), some (.int v1), some (.int v2), none]) (M := jm_31) rfl rfl rfl rfl ?_
  refine jx_next (pc := 0) (pc' := 1) rfl rfl ?_
  refine jx_iflt (pc := 1) rfl (fun hc1 => ?_) (fun hc1 => ?_)
  · replace K := (if_pos hc1).symm.trans K
    refine jx_le (pl' := [some (.int v0), some (.int v1), some (.int v2), none]) (jle_v (jle_v (jle_v (jle_n jle_nil)))) ?_
    exact kWd_withLetter_j14 hP  hd K HQ
  · replace K := (if_neg hc1).symm.trans K
    refine jx_next (pc := 4) (pc' := 5) rfl rfl ?_
    refine jx_next (pc := 5) (pc' := 7) rfl rfl ?_
    refine jx_icge (pc := 7) rfl (fun hc3 => ?_) (fun hc3 => ?_)
    · replace K := (if_pos hc3).symm.trans K
      refine jx_next (pc := 10) (pc' := 11) rfl rfl ?_
      refine jx_next (pc := 11) (pc' := 15) rfl rfl ?_
      refine jx_le (pl' := [some (.int v0), some (.int v1), some (.int v2), none]) (jle_v (jle_v (jle_v (jle_n jle_nil)))) ?_
      exact kWd_withLetter_j15 hP  hd K HQ
    · replace K := (if_neg hc3).symm.trans K
      refine jx_le (pl' := [some (.int v0), some (.int v1), some (.int v2), none]) (jle_v (jle_v (jle_v (jle_n jle_nil)))) ?_
      exact kWd_withLetter_j14 hP  hd K HQ
/-- AndGuest$Reader.withDigit(III)I -/
noncomputable def fRd_withDigit (v0 : Int32) (v1 : Int32) (v2 : Int32) : Int32 :=
  (if v1 < 4 then
  (((10 * v0) + v2) - 48 : Int32)
  else
  (v0 : Int32))
theorem kRd_withDigit {X : jX} {dd : Nat} {p d : Nat} {q : Nat → Nat} {Q : Option Value → jS → Prop} {v0 : Int32} {v1 : Int32} {v2 : Int32} {h : jH}  (hd : 0 ≤ dd) {z : Int32} (K : fRd_withDigit v0 v1 v2 = z) (HQ : Q (some (.int z)) (176, jRf p d q, h)) :
    jCa X dd 32 [.int v0, .int v1, .int v2] (176, jRf p d q, h) Q := by
  unfold fRd_withDigit at K
  refine jCa_of (es := jc_32) (pl := [some (.int v0), some (.int v1), some (.int v2)]) (M := jm_32) rfl rfl rfl rfl ?_
  refine jx_next (pc := 0) (pc' := 1) rfl rfl ?_
  refine jx_next (pc := 1) (pc' := 2) rfl rfl ?_
  refine jx_icge (pc := 2) rfl (fun hc1 => ?_) (fun hc1 => ?_)
  · replace K := (if_pos hc1).symm.trans K
    refine jx_next (pc := 5) (pc' := 7) rfl rfl ?_
    refine jx_next (pc := 7) (pc' := 8) rfl rfl ?_
    refine jx_next (pc := 8) (pc' := 9) rfl rfl ?_
    refine jx_next (pc := 9) (pc' := 10) rfl rfl ?_
    refine jx_next (pc := 10) (pc' := 11) rfl rfl ?_
    refine jx_next (pc := 11) (pc' := 13) rfl rfl ?_
    refine jx_next (pc := 13) (pc' := 14) rfl rfl ?_
    refine jx_next (pc := 14) (pc' := 18) rfl rfl ?_
    obtain rfl := K
    exact jx_iret (pc := 18) rfl HQ
  · replace K := (if_neg hc1).symm.trans K
    refine jx_next (pc := 17) (pc' := 18) rfl rfl ?_
    obtain rfl := K
    exact jx_iret (pc := 18) rfl HQ
noncomputable def fRd_step_l32_b (v1 : Int32) (v2 : Int32) (h : jH) : Option ((jH) ⊕ (jH)) :=
  (if (h.1 6 1) < (fTp_size 2 h) then
  (Option.bind (fTp_byteAt 2 (h.1 6 1) h) (fun (z4 : Int32) =>
  (if (fRd_isBlank z4) = 0 then
  some (.inr h)
  else
  some (.inl (jhI h 6 1 ((h.1 6 1) + 1))))))
  else
  some (.inr h))
noncomputable def fRd_step_l32 (v1 : Int32) (v2 : Int32) : jH → Option ((jH) ⊕ (jH)) :=
  fun (s : jH) => fRd_step_l32_b v1 v2 s
theorem kRd_step_l32_b {X : jX} {dd : Nat} {p d : Nat} {q : Nat → Nat} {Q : Option Value → jS → Prop} {v1 : Int32} {v2 : Int32} {h : jH} (hP : jOK p d q)  (hd : 1 ≤ (dd + 1)) {z : (jH) ⊕ (jH)} (K : fRd_step_l32_b v1 v2 h = some z) (HL : ∀ s : jH, z = .inl s → jEx X (dd + 1) jc_26 32 [some (.ref 6), some (.int v1), some (.int v2), none, none, none, none] [] (176, jRf p d q, s) Q) (HE0 : ∀ x : jH, z = .inr x → jEx X (dd + 1) jc_26 76 [some (.ref 6), some (.int v1), some (.int v2), none, none, none, none] [] (176, jRf p d q, x) Q) :
    jEx X (dd + 1) jc_26 32 [some (.ref 6), some (.int v1), some (.int v2), none, none, none, none] [] (176, jRf p d q, h) Q := by
  unfold fRd_step_l32_b at K
  refine jx_next (pc := 32) (pc' := 33) rfl rfl ?_
  refine jx_geti (pc := 33) rfl jko_6 ?_
  refine jx_next (pc := 36) (pc' := 37) rfl rfl ?_
  refine jx_getr2 (pc := 37) rfl jko_6 jr_3_0 ?_
  refine jx_callv (pc := 40) (o := 2) (rest := [.int (h.1 6 1)]) rfl ⟨by decide, by decide⟩ rfl jko_2 (Nat.le_of_ble_eq_true rfl) ?_
  refine kTp_size hP jko_2 (by omega) rfl ?_
  refine jx_icge (pc := 43) rfl (fun hc3 => ?_) (fun hc3 => ?_)
  · replace K := (if_pos hc3).symm.trans K
    refine jx_next (pc := 46) (pc' := 47) rfl rfl ?_
    refine jx_getr2 (pc := 47) rfl jko_6 jr_3_0 ?_
    refine jx_next (pc := 50) (pc' := 51) rfl rfl ?_
    refine jx_geti (pc := 51) rfl jko_6 ?_
    refine jx_callv (pc := 54) (o := 2) (rest := []) rfl ⟨by decide, by decide⟩ rfl jko_2 (Nat.le_of_ble_eq_true rfl) ?_
    obtain ⟨z4, hz_z4, K⟩ := Option.bind_eq_some_iff.mp K
    refine kTp_byteAt hP jko_2 (by omega) hz_z4 ?_
    refine jx_calls (pc := 57) rfl (Nat.le_of_ble_eq_true rfl) (Nat.le_of_ble_eq_true rfl) ?_
    refine kRd_isBlank  (by omega) rfl ?_
    refine jx_ifeq (pc := 60) rfl (fun hc6 => ?_) (fun hc6 => ?_)
    · replace K := (if_pos hc6).symm.trans K
      obtain rfl := Option.some.inj K
      refine jx_le (pl' := [some (.ref 6), some (.int v1), some (.int v2), none, none, none, none]) (jle_v (jle_v (jle_v (jle_n (jle_n (jle_n (jle_n jle_nil))))))) ?_
      exact HE0 _ rfl
    · replace K := (if_neg hc6).symm.trans K
      refine jx_next (pc := 63) (pc' := 64) rfl rfl ?_
      refine jx_next (pc := 64) (pc' := 65) rfl rfl ?_
      refine jx_geti (pc := 65) rfl jko_6 ?_
      refine jx_next (pc := 68) (pc' := 69) rfl rfl ?_
      refine jx_next (pc := 69) (pc' := 70) rfl rfl ?_
      refine jx_puti (pc := 70) rfl jko_6 ?_
      refine jx_next (pc := 73) (pc' := 32) rfl rfl ?_
      obtain rfl := Option.some.inj K
      refine jx_le (pl' := [some (.ref 6), some (.int v1), some (.int v2), none, none, none, none]) (jle_v (jle_v (jle_v (jle_n (jle_n (jle_n (jle_n jle_nil))))))) ?_
      exact HL (jhI h 6 1 ((h.1 6 1) + 1)) rfl
  · replace K := (if_neg hc3).symm.trans K
    obtain rfl := Option.some.inj K
    refine jx_le (pl' := [some (.ref 6), some (.int v1), some (.int v2), none, none, none, none]) (jle_v (jle_v (jle_v (jle_n (jle_n (jle_n (jle_n jle_nil))))))) ?_
    exact HE0 _ rfl
theorem kRd_step_l32_w {X : jX} {dd : Nat} {p d : Nat} {q : Nat → Nat} {Q : Option Value → jS → Prop} {v1 : Int32} {v2 : Int32} (hP : jOK p d q)  (hd : 1 ≤ (dd + 1)) {s : jH} {x : jH} (K : jlim (fRd_step_l32 v1 v2) s = some x) (HE : jEx X (dd + 1) jc_26 76 [some (.ref 6), some (.int v1), some (.int v2), none, none, none, none] [] (176, jRf p d q, x) Q) :
    jEx X (dd + 1) jc_26 32 [some (.ref 6), some (.int v1), some (.int v2), none, none, none, none] [] (176, jRf p d q, s) Q := by
  refine jlim_ok (G := fun s : jH => jEx X (dd + 1) jc_26 32 [some (.ref 6), some (.int v1), some (.int v2), none, none, none, none] [] (176, jRf p d q, s) Q) (GX := fun x : jH => jEx X (dd + 1) jc_26 76 [some (.ref 6), some (.int v1), some (.int v2), none, none, none, none] [] (176, jRf p d q, x) Q) (fun s z hz HL HE => ?_) K HE
  exact kRd_step_l32_b hP  hd hz HL HE
noncomputable def fRd_step_l190_j282 (v3 : Int32) (v4 : Int32) (s1 : Int32) (h : jH) : Option ((jH) ⊕ (jH)) :=
  some (.inl (jhI (jhI h 6 4 s1) 6 2 (((jhI h 6 4 s1).1 6 2) + 1)))
theorem kRd_step_l190_j282 {X : jX} {dd : Nat} {p d : Nat} {q : Nat → Nat} {Q : Option Value → jS → Prop} {v3 : Int32} {v4 : Int32} {s1 : Int32} {h : jH} (hP : jOK p d q)  (hd : 1 ≤ (dd + 1)) {z : (jH) ⊕ (jH)} (K : fRd_step_l190_j282 v3 v4 s1 h = some z) (HL : ∀ s : jH, z = .inl s → jEx X (dd + 1) jc_26 190 [some (.ref 6), none, none, some (.int v3), some (.int v4), none, none] [] (176, jRf p d q, s) Q) (HE0 : ∀ x : jH, z = .inr x → jEx X (dd + 1) jc_26 298 [none, none, none, none, none, none, none] [] (176, jRf p d q, x) Q) :
    jEx X (dd + 1) jc_26 282 [some (.ref 6), none, none, some (.int v3), some (.int v4), none, none] [.int s1, .ref 6] (176, jRf p d q, h) Q := by
  unfold fRd_step_l190_j282 at K
  refine jx_puti (pc := 282) rfl jko_6 ?_
  refine jx_next (pc := 285) (pc' := 286) rfl rfl ?_
  refine jx_next (pc := 286) (pc' := 287) rfl rfl ?_
  refine jx_geti (pc := 287) rfl jko_6 ?_
  refine jx_next (pc := 290) (pc' := 291) rfl rfl ?_
  refine jx_next (pc := 291) (pc' := 292) rfl rfl ?_
  refine jx_puti (pc := 292) rfl jko_6 ?_
  refine jx_next (pc := 295) (pc' := 190) rfl rfl ?_
  obtain rfl := Option.some.inj K
  refine jx_le (pl' := [some (.ref 6), none, none, some (.int v3), some (.int v4), none, none]) (jle_v (jle_n (jle_n (jle_v (jle_v (jle_n (jle_n jle_nil))))))) ?_
  exact HL (jhI (jhI h 6 4 s1) 6 2 (((jhI h 6 4 s1).1 6 2) + 1)) rfl
noncomputable def fRd_step_l190_b (v3 : Int32) (v4 : Int32) (h : jH) : Option ((jH) ⊕ (jH)) :=
  (if v4 = 0 then
  some (.inr h)
  else
  (if (h.1 6 2) < (fTp_size 2 h) then
  (Option.bind (fTp_byteAt 2 (h.1 6 2) h) (fun (z20 : Int32) =>
  (if (fRd_sortOf z20 h) = v3 then
  (Option.bind (fTp_byteAt 2 (h.1 6 2) h) (fun (z23 : Int32) =>
  (if v3 = 1 then
  fRd_step_l190_j282  v3 v4 (fWd_withLetter (h.1 6 4) ((h.1 6 2) - (h.1 6 1)) z23 h) h
  else
  fRd_step_l190_j282  v3 v4 (fRd_withDigit (h.1 6 4) ((h.1 6 2) - (h.1 6 1)) z23) h)))
  else
  some (.inr h))))
  else
  some (.inr h)))
noncomputable def fRd_step_l190 (v3 : Int32) (v4 : Int32) : jH → Option ((jH) ⊕ (jH)) :=
  fun (s : jH) => fRd_step_l190_b v3 v4 s
theorem kRd_step_l190_b {X : jX} {dd : Nat} {p d : Nat} {q : Nat → Nat} {Q : Option Value → jS → Prop} {v3 : Int32} {v4 : Int32} {h : jH} (hP : jOK p d q)  (hd : 1 ≤ (dd + 1)) {z : (jH) ⊕ (jH)} (K : fRd_step_l190_b v3 v4 h = some z) (HL : ∀ s : jH, z = .inl s → jEx X (dd + 1) jc_26 190 [some (.ref 6), none, none, some (.int v3), some (.int v4), none, none] [] (176, jRf p d q, s) Q) (HE0 : ∀ x : jH, z = .inr x → jEx X (dd + 1) jc_26 298 [none, none, none, none, none, none, none] [] (176, jRf p d q, x) Q) :
    jEx X (dd + 1) jc_26 190 [some (.ref 6), none, none, some (.int v3), some (.int v4), none, none] [] (176, jRf p d q, h) Q := by
  unfold fRd_step_l190_b at K
  refine jx_next (pc := 190) (pc' := 192) rfl rfl ?_
  refine jx_ifeq (pc := 192) rfl (fun hc17 => ?_) (fun hc17 => ?_)
  · replace K := (if_pos hc17).symm.trans K
    obtain rfl := Option.some.inj K
    refine jx_le (pl' := [none, none, none, none, none, none, none]) (jle_n (jle_n (jle_n (jle_n (jle_n (jle_n (jle_n jle_nil))))))) ?_
    exact HE0 _ rfl
  · replace K := (if_neg hc17).symm.trans K
    refine jx_next (pc := 195) (pc' := 196) rfl rfl ?_
    refine jx_geti (pc := 196) rfl jko_6 ?_
    refine jx_next (pc := 199) (pc' := 200) rfl rfl ?_
    refine jx_getr2 (pc := 200) rfl jko_6 jr_3_0 ?_
    refine jx_callv (pc := 203) (o := 2) (rest := [.int (h.1 6 2)]) rfl ⟨by decide, by decide⟩ rfl jko_2 (Nat.le_of_ble_eq_true rfl) ?_
    refine kTp_size hP jko_2 (by omega) rfl ?_
    refine jx_icge (pc := 206) rfl (fun hc19 => ?_) (fun hc19 => ?_)
    · replace K := (if_pos hc19).symm.trans K
      refine jx_next (pc := 209) (pc' := 210) rfl rfl ?_
      refine jx_getr2 (pc := 210) rfl jko_6 jr_3_0 ?_
      refine jx_next (pc := 213) (pc' := 214) rfl rfl ?_
      refine jx_geti (pc := 214) rfl jko_6 ?_
      refine jx_callv (pc := 217) (o := 2) (rest := []) rfl ⟨by decide, by decide⟩ rfl jko_2 (Nat.le_of_ble_eq_true rfl) ?_
      obtain ⟨z20, hz_z20, K⟩ := Option.bind_eq_some_iff.mp K
      refine kTp_byteAt hP jko_2 (by omega) hz_z20 ?_
      refine jx_calls (pc := 220) rfl (Nat.le_of_ble_eq_true rfl) (Nat.le_of_ble_eq_true rfl) ?_
      refine kRd_sortOf hP (by omega) rfl ?_
      refine jx_next (pc := 223) (pc' := 224) rfl rfl ?_
      refine jx_icne (pc := 224) rfl (fun hc22 => ?_) (fun hc22 => ?_)
      · replace K := (if_pos hc22).symm.trans K
        refine jx_next (pc := 227) (pc' := 228) rfl rfl ?_
        refine jx_geti (pc := 228) rfl jko_6 ?_
        refine jx_next (pc := 231) (pc' := 232) rfl rfl ?_
        refine jx_geti (pc := 232) rfl jko_6 ?_
        refine jx_next (pc := 235) (pc' := 236) rfl rfl ?_
        refine jx_sti (pc := 236) (p2 := [some (.ref 6), none, none, some (.int v3), some (.int v4), some (.int ((h.1 6 2) - (h.1 6 1))), none]) rfl (jlt rfl) rfl ?_
        refine jx_next (pc := 238) (pc' := 239) rfl rfl ?_
        refine jx_getr2 (pc := 239) rfl jko_6 jr_3_0 ?_
        refine jx_next (pc := 242) (pc' := 243) rfl rfl ?_
        refine jx_geti (pc := 243) rfl jko_6 ?_
        refine jx_callv (pc := 246) (o := 2) (rest := []) rfl ⟨by decide, by decide⟩ rfl jko_2 (Nat.le_of_ble_eq_true rfl) ?_
        obtain ⟨z23, hz_z23, K⟩ := Option.bind_eq_some_iff.mp K
        refine kTp_byteAt hP jko_2 (by omega) hz_z23 ?_
        refine jx_sti (pc := 249) (p2 := [some (.ref 6), none, none, some (.int v3), some (.int v4), some (.int ((h.1 6 2) - (h.1 6 1))), some (.int z23)]) rfl (jlt rfl) rfl ?_
        refine jx_next (pc := 251) (pc' := 252) rfl rfl ?_
        refine jx_next (pc := 252) (pc' := 253) rfl rfl ?_
        refine jx_next (pc := 253) (pc' := 254) rfl rfl ?_
        refine jx_icne (pc := 254) rfl (fun hc24 => ?_) (fun hc24 => ?_)
        · replace K := (if_pos hc24).symm.trans K
          refine jx_next (pc := 257) (pc' := 258) rfl rfl ?_
          refine jx_geti (pc := 258) rfl jko_6 ?_
          refine jx_next (pc := 261) (pc' := 263) rfl rfl ?_
          refine jx_next (pc := 263) (pc' := 265) rfl rfl ?_
          refine jx_calls (pc := 265) rfl (Nat.le_of_ble_eq_true rfl) (Nat.le_of_ble_eq_true rfl) ?_
          refine kWd_withLetter hP (by omega) rfl ?_
          refine jx_next (pc := 268) (pc' := 282) rfl rfl ?_
          refine jx_le (pl' := [some (.ref 6), none, none, some (.int v3), some (.int v4), none, none]) (jle_v (jle_n (jle_n (jle_v (jle_v (jle_n (jle_n jle_nil))))))) ?_
          exact kRd_step_l190_j282 hP  hd K HL HE0
        · replace K := (if_neg hc24).symm.trans K
          refine jx_next (pc := 271) (pc' := 272) rfl rfl ?_
          refine jx_geti (pc := 272) rfl jko_6 ?_
          refine jx_next (pc := 275) (pc' := 277) rfl rfl ?_
          refine jx_next (pc := 277) (pc' := 279) rfl rfl ?_
          refine jx_calls (pc := 279) rfl (Nat.le_of_ble_eq_true rfl) (Nat.le_of_ble_eq_true rfl) ?_
          refine kRd_withDigit  (by omega) rfl ?_
          refine jx_le (pl' := [some (.ref 6), none, none, some (.int v3), some (.int v4), none, none]) (jle_v (jle_n (jle_n (jle_v (jle_v (jle_n (jle_n jle_nil))))))) ?_
          exact kRd_step_l190_j282 hP  hd K HL HE0
      · replace K := (if_neg hc22).symm.trans K
        obtain rfl := Option.some.inj K
        refine jx_le (pl' := [none, none, none, none, none, none, none]) (jle_n (jle_n (jle_n (jle_n (jle_n (jle_n (jle_n jle_nil))))))) ?_
        exact HE0 _ rfl
    · replace K := (if_neg hc19).symm.trans K
      obtain rfl := Option.some.inj K
      refine jx_le (pl' := [none, none, none, none, none, none, none]) (jle_n (jle_n (jle_n (jle_n (jle_n (jle_n (jle_n jle_nil))))))) ?_
      exact HE0 _ rfl
theorem kRd_step_l190_w {X : jX} {dd : Nat} {p d : Nat} {q : Nat → Nat} {Q : Option Value → jS → Prop} {v3 : Int32} {v4 : Int32} (hP : jOK p d q)  (hd : 1 ≤ (dd + 1)) {s : jH} {x : jH} (K : jlim (fRd_step_l190 v3 v4) s = some x) (HE : jEx X (dd + 1) jc_26 298 [none, none, none, none, none, none, none] [] (176, jRf p d q, x) Q) :
    jEx X (dd + 1) jc_26 190 [some (.ref 6), none, none, some (.int v3), some (.int v4), none, none] [] (176, jRf p d q, s) Q := by
  refine jlim_ok (G := fun s : jH => jEx X (dd + 1) jc_26 190 [some (.ref 6), none, none, some (.int v3), some (.int v4), none, none] [] (176, jRf p d q, s) Q) (GX := fun x : jH => jEx X (dd + 1) jc_26 298 [none, none, none, none, none, none, none] [] (176, jRf p d q, x) Q) (fun s z hz HL HE => ?_) K HE
  exact kRd_step_l190_b hP  hd hz HL HE
noncomputable def fRd_step_j187 (v3 : Int32) (v4 : Int32) (s1 : Int32) (h : jH) : Option jH :=
  (Option.bind (jlim (fRd_step_l190  v3 v4) (jhI h 6 2 s1)) (fun (x27 : jH) =>
  some x27))
theorem kRd_step_j187 {X : jX} {dd : Nat} {p d : Nat} {q : Nat → Nat} {Q : Option Value → jS → Prop} {v3 : Int32} {v4 : Int32} {s1 : Int32} {h : jH} (hP : jOK p d q)  (hd : 1 ≤ (dd + 1)) {z : jH} (K : fRd_step_j187 v3 v4 s1 h = some z) (HQ : Q none (176, jRf p d q, z)) :
    jEx X (dd + 1) jc_26 187 [some (.ref 6), none, none, some (.int v3), some (.int v4), none, none] [.int s1, .ref 6] (176, jRf p d q, h) Q := by
  unfold fRd_step_j187 at K
  refine jx_puti (pc := 187) rfl jko_6 ?_
  refine jx_le (pl' := [some (.ref 6), none, none, some (.int v3), some (.int v4), none, none]) (jle_v (jle_n (jle_n (jle_v (jle_v (jle_n (jle_n jle_nil))))))) ?_
  obtain ⟨x27, hz_x27, K⟩ := Option.bind_eq_some_iff.mp K
  refine kRd_step_l190_w hP  hd hz_x27 ?_
  obtain rfl := Option.some.inj K
  exact jx_ret (pc := 298) rfl rfl HQ
noncomputable def fRd_step_j155 (v3 : Int32) (v4 : Int32) (s1 : Int32) (h : jH) : Option jH :=
  (if v4 = 0 then
  fRd_step_j187  v3 v4 (fMt_min (((jhI h 6 4 s1).1 6 1) + 1) (fTp_size 2 (jhI h 6 4 s1))) (jhI h 6 4 s1)
  else
  fRd_step_j187  v3 v4 ((jhI h 6 4 s1).1 6 1) (jhI h 6 4 s1))
theorem kRd_step_j155 {X : jX} {dd : Nat} {p d : Nat} {q : Nat → Nat} {Q : Option Value → jS → Prop} {v3 : Int32} {v4 : Int32} {s1 : Int32} {h : jH} (hP : jOK p d q)  (hd : 1 ≤ (dd + 1)) {z : jH} (K : fRd_step_j155 v3 v4 s1 h = some z) (HQ : Q none (176, jRf p d q, z)) :
    jEx X (dd + 1) jc_26 155 [some (.ref 6), none, none, some (.int v3), some (.int v4), none, none] [.int s1, .ref 6] (176, jRf p d q, h) Q := by
  unfold fRd_step_j155 at K
  refine jx_puti (pc := 155) rfl jko_6 ?_
  refine jx_next (pc := 158) (pc' := 159) rfl rfl ?_
  refine jx_next (pc := 159) (pc' := 161) rfl rfl ?_
  refine jx_ifeq (pc := 161) rfl (fun hc14 => ?_) (fun hc14 => ?_)
  · replace K := (if_pos hc14).symm.trans K
    refine jx_next (pc := 171) (pc' := 172) rfl rfl ?_
    refine jx_geti (pc := 172) rfl jko_6 ?_
    refine jx_next (pc := 175) (pc' := 176) rfl rfl ?_
    refine jx_next (pc := 176) (pc' := 177) rfl rfl ?_
    refine jx_next (pc := 177) (pc' := 178) rfl rfl ?_
    refine jx_getr2 (pc := 178) rfl jko_6 jr_3_0 ?_
    refine jx_callv (pc := 181) (o := 2) (rest := [.int (((jhI h 6 4 s1).1 6 1) + 1), .ref 6]) rfl ⟨by decide, by decide⟩ rfl jko_2 (Nat.le_of_ble_eq_true rfl) ?_
    refine kTp_size hP jko_2 (by omega) rfl ?_
    refine jx_calls (pc := 184) rfl (Nat.le_of_ble_eq_true rfl) (Nat.le_of_ble_eq_true rfl) ?_
    refine kMt_min  (by omega) rfl ?_
    refine jx_le (pl' := [some (.ref 6), none, none, some (.int v3), some (.int v4), none, none]) (jle_v (jle_n (jle_n (jle_v (jle_v (jle_n (jle_n jle_nil))))))) ?_
    exact kRd_step_j187 hP  hd K HQ
  · replace K := (if_neg hc14).symm.trans K
    refine jx_next (pc := 164) (pc' := 165) rfl rfl ?_
    refine jx_geti (pc := 165) rfl jko_6 ?_
    refine jx_next (pc := 168) (pc' := 187) rfl rfl ?_
    refine jx_le (pl' := [some (.ref 6), none, none, some (.int v3), some (.int v4), none, none]) (jle_v (jle_n (jle_n (jle_v (jle_v (jle_n (jle_n jle_nil))))))) ?_
    exact kRd_step_j187 hP  hd K HQ
noncomputable def fRd_step_j131 (v3 : Int32) (v4 : Int32) (s1 : Int32) (h : jH) : Option jH :=
  (if v4 = 0 then
  (Option.bind (fTp_byteAt 2 ((jhI h 6 3 s1).1 6 1) (jhI h 6 3 s1)) (fun (z13 : Int32) =>
  fRd_step_j155  v3 v4 z13 (jhI h 6 3 s1)))
  else
  fRd_step_j155  v3 v4 0 (jhI h 6 3 s1))
theorem kRd_step_j131 {X : jX} {dd : Nat} {p d : Nat} {q : Nat → Nat} {Q : Option Value → jS → Prop} {v3 : Int32} {v4 : Int32} {s1 : Int32} {h : jH} (hP : jOK p d q)  (hd : 1 ≤ (dd + 1)) {z : jH} (K : fRd_step_j131 v3 v4 s1 h = some z) (HQ : Q none (176, jRf p d q, z)) :
    jEx X (dd + 1) jc_26 131 [some (.ref 6), none, none, some (.int v3), some (.int v4), none, none] [.int s1, .ref 6] (176, jRf p d q, h) Q := by
  unfold fRd_step_j131 at K
  refine jx_puti (pc := 131) rfl jko_6 ?_
  refine jx_next (pc := 134) (pc' := 135) rfl rfl ?_
  refine jx_next (pc := 135) (pc' := 137) rfl rfl ?_
  refine jx_ifeq (pc := 137) rfl (fun hc12 => ?_) (fun hc12 => ?_)
  · replace K := (if_pos hc12).symm.trans K
    refine jx_next (pc := 144) (pc' := 145) rfl rfl ?_
    refine jx_getr2 (pc := 145) rfl jko_6 jr_3_0 ?_
    refine jx_next (pc := 148) (pc' := 149) rfl rfl ?_
    refine jx_geti (pc := 149) rfl jko_6 ?_
    refine jx_callv (pc := 152) (o := 2) (rest := [.ref 6]) rfl ⟨by decide, by decide⟩ rfl jko_2 (Nat.le_of_ble_eq_true rfl) ?_
    obtain ⟨z13, hz_z13, K⟩ := Option.bind_eq_some_iff.mp K
    refine kTp_byteAt hP jko_2 (by omega) hz_z13 ?_
    refine jx_le (pl' := [some (.ref 6), none, none, some (.int v3), some (.int v4), none, none]) (jle_v (jle_n (jle_n (jle_v (jle_v (jle_n (jle_n jle_nil))))))) ?_
    exact kRd_step_j155 hP  hd K HQ
  · replace K := (if_neg hc12).symm.trans K
    refine jx_next (pc := 140) (pc' := 141) rfl rfl ?_
    refine jx_next (pc := 141) (pc' := 155) rfl rfl ?_
    refine jx_le (pl' := [some (.ref 6), none, none, some (.int v3), some (.int v4), none, none]) (jle_v (jle_n (jle_n (jle_v (jle_v (jle_n (jle_n jle_nil))))))) ?_
    exact kRd_step_j155 hP  hd K HQ
noncomputable def fRd_step_j130 (v3 : Int32) (v4 : Int32) (h : jH) : Option jH :=
  fRd_step_j131  v3 v4 v3 h
theorem kRd_step_j130 {X : jX} {dd : Nat} {p d : Nat} {q : Nat → Nat} {Q : Option Value → jS → Prop} {v3 : Int32} {v4 : Int32} {h : jH} (hP : jOK p d q)  (hd : 1 ≤ (dd + 1)) {z : jH} (K : fRd_step_j130 v3 v4 h = some z) (HQ : Q none (176, jRf p d q, z)) :
    jEx X (dd + 1) jc_26 130 [some (.ref 6), none, none, some (.int v3), some (.int v4), none, none] [.ref 6] (176, jRf p d q, h) Q := by
  unfold fRd_step_j130 at K
  refine jx_next (pc := 130) (pc' := 131) rfl rfl ?_
  refine jx_le (pl' := [some (.ref 6), none, none, some (.int v3), some (.int v4), none, none]) (jle_v (jle_n (jle_n (jle_v (jle_v (jle_n (jle_n jle_nil))))))) ?_
  exact kRd_step_j131 hP  hd K HQ
noncomputable def fRd_step_j106 (v1 : Int32) (v2 : Int32) (v3 : Int32) (s0 : Int32) (h : jH) : Option jH :=
  (if v1 = 0 then
  fRd_step_j130  v3 s0 h
  else
  (if s0 = 0 then
  fRd_step_j130  v3 s0 h
  else
  (if (h.1 6 1) = v2 then
  fRd_step_j131  v3 s0 4 h
  else
  fRd_step_j130  v3 s0 h)))
theorem kRd_step_j106 {X : jX} {dd : Nat} {p d : Nat} {q : Nat → Nat} {Q : Option Value → jS → Prop} {v1 : Int32} {v2 : Int32} {v3 : Int32} {s0 : Int32} {h : jH} (hP : jOK p d q)  (hd : 1 ≤ (dd + 1)) {z : jH} (K : fRd_step_j106 v1 v2 v3 s0 h = some z) (HQ : Q none (176, jRf p d q, z)) :
    jEx X (dd + 1) jc_26 106 [some (.ref 6), some (.int v1), some (.int v2), some (.int v3), none, none, none] [.int s0] (176, jRf p d q, h) Q := by
  unfold fRd_step_j106 at K
  refine jx_sti (pc := 106) (p2 := [some (.ref 6), some (.int v1), some (.int v2), some (.int v3), some (.int s0), none, none]) rfl (jlt rfl) rfl ?_
  refine jx_next (pc := 108) (pc' := 109) rfl rfl ?_
  refine jx_next (pc := 109) (pc' := 110) rfl rfl ?_
  refine jx_ifeq (pc := 110) rfl (fun hc11 => ?_) (fun hc11 => ?_)
  · replace K := (if_pos hc11).symm.trans K
    refine jx_le (pl' := [some (.ref 6), none, none, some (.int v3), some (.int s0), none, none]) (jle_v (jle_n (jle_n (jle_v (jle_v (jle_n (jle_n jle_nil))))))) ?_
    exact kRd_step_j130 hP  hd K HQ
  · replace K := (if_neg hc11).symm.trans K
    refine jx_next (pc := 113) (pc' := 115) rfl rfl ?_
    refine jx_ifeq (pc := 115) rfl (fun hc28 => ?_) (fun hc28 => ?_)
    · replace K := (if_pos hc28).symm.trans K
      refine jx_le (pl' := [some (.ref 6), none, none, some (.int v3), some (.int s0), none, none]) (jle_v (jle_n (jle_n (jle_v (jle_v (jle_n (jle_n jle_nil))))))) ?_
      exact kRd_step_j130 hP  hd K HQ
    · replace K := (if_neg hc28).symm.trans K
      refine jx_next (pc := 118) (pc' := 119) rfl rfl ?_
      refine jx_geti (pc := 119) rfl jko_6 ?_
      refine jx_next (pc := 122) (pc' := 123) rfl rfl ?_
      refine jx_icne (pc := 123) rfl (fun hc29 => ?_) (fun hc29 => ?_)
      · replace K := (if_pos hc29).symm.trans K
        refine jx_next (pc := 126) (pc' := 127) rfl rfl ?_
        refine jx_next (pc := 127) (pc' := 131) rfl rfl ?_
        refine jx_le (pl' := [some (.ref 6), none, none, some (.int v3), some (.int s0), none, none]) (jle_v (jle_n (jle_n (jle_v (jle_v (jle_n (jle_n jle_nil))))))) ?_
        exact kRd_step_j131 hP  hd K HQ
      · replace K := (if_neg hc29).symm.trans K
        refine jx_le (pl' := [some (.ref 6), none, none, some (.int v3), some (.int s0), none, none]) (jle_v (jle_n (jle_n (jle_v (jle_v (jle_n (jle_n jle_nil))))))) ?_
        exact kRd_step_j130 hP  hd K HQ
noncomputable def fRd_step_j101 (v1 : Int32) (v2 : Int32) (v3 : Int32) (h : jH) : Option jH :=
  fRd_step_j106  v1 v2 v3 1 h
theorem kRd_step_j101 {X : jX} {dd : Nat} {p d : Nat} {q : Nat → Nat} {Q : Option Value → jS → Prop} {v1 : Int32} {v2 : Int32} {v3 : Int32} {h : jH} (hP : jOK p d q)  (hd : 1 ≤ (dd + 1)) {z : jH} (K : fRd_step_j101 v1 v2 v3 h = some z) (HQ : Q none (176, jRf p d q, z)) :
    jEx X (dd + 1) jc_26 101 [some (.ref 6), some (.int v1), some (.int v2), some (.int v3), none, none, none] [] (176, jRf p d q, h) Q := by
  unfold fRd_step_j101 at K
  refine jx_next (pc := 101) (pc' := 102) rfl rfl ?_
  refine jx_next (pc := 102) (pc' := 106) rfl rfl ?_
  refine jx_le (pl' := [some (.ref 6), some (.int v1), some (.int v2), some (.int v3), none, none, none]) (jle_v (jle_v (jle_v (jle_v (jle_n (jle_n (jle_n jle_nil))))))) ?_
  exact kRd_step_j106 hP  hd K HQ
noncomputable def fRd_step_j21 (s0 : Int32) (h : jH) : Option jH :=
  (Option.bind (jlim (fRd_step_l32  s0 (h.1 6 2)) (jhI h 6 1 (h.1 6 2))) (fun (x7 : jH) =>
  (Option.bind (fTp_byteAt 2 (x7.1 6 1) x7) (fun (z8 : Int32) =>
  (if (fRd_sortOf z8 x7) = 1 then
  fRd_step_j101  s0 (h.1 6 2) (fRd_sortOf z8 x7) x7
  else
  (if (fRd_sortOf z8 x7) = 2 then
  fRd_step_j101  s0 (h.1 6 2) (fRd_sortOf z8 x7) x7
  else
  fRd_step_j106  s0 (h.1 6 2) (fRd_sortOf z8 x7) 0 x7))))))
theorem kRd_step_j21 {X : jX} {dd : Nat} {p d : Nat} {q : Nat → Nat} {Q : Option Value → jS → Prop} {s0 : Int32} {h : jH} (hP : jOK p d q)  (hd : 1 ≤ (dd + 1)) {z : jH} (K : fRd_step_j21 s0 h = some z) (HQ : Q none (176, jRf p d q, z)) :
    jEx X (dd + 1) jc_26 21 [some (.ref 6), none, none, none, none, none, none] [.int s0] (176, jRf p d q, h) Q := by
  unfold fRd_step_j21 at K
  refine jx_stin (pc := 21) (p2 := [some (.ref 6), some (.int s0), none, none, none, none, none]) rfl (jlt rfl) rfl ?_
  refine jx_next (pc := 22) (pc' := 23) rfl rfl ?_
  refine jx_geti (pc := 23) rfl jko_6 ?_
  refine jx_stin (pc := 26) (p2 := [some (.ref 6), some (.int s0), some (.int (h.1 6 2)), none, none, none, none]) rfl (jlt rfl) rfl ?_
  refine jx_next (pc := 27) (pc' := 28) rfl rfl ?_
  refine jx_next (pc := 28) (pc' := 29) rfl rfl ?_
  refine jx_puti (pc := 29) rfl jko_6 ?_
  refine jx_le (pl' := [some (.ref 6), some (.int s0), some (.int (h.1 6 2)), none, none, none, none]) (jle_v (jle_v (jle_v (jle_n (jle_n (jle_n (jle_n jle_nil))))))) ?_
  obtain ⟨x7, hz_x7, K⟩ := Option.bind_eq_some_iff.mp K
  refine kRd_step_l32_w hP  hd hz_x7 ?_
  refine jx_next (pc := 76) (pc' := 77) rfl rfl ?_
  refine jx_getr2 (pc := 77) rfl jko_6 jr_3_0 ?_
  refine jx_next (pc := 80) (pc' := 81) rfl rfl ?_
  refine jx_geti (pc := 81) rfl jko_6 ?_
  refine jx_callv (pc := 84) (o := 2) (rest := []) rfl ⟨by decide, by decide⟩ rfl jko_2 (Nat.le_of_ble_eq_true rfl) ?_
  obtain ⟨z8, hz_z8, K⟩ := Option.bind_eq_some_iff.mp K
  refine kTp_byteAt hP jko_2 (by omega) hz_z8 ?_
  refine jx_calls (pc := 87) rfl (Nat.le_of_ble_eq_true rfl) (Nat.le_of_ble_eq_true rfl) ?_
  refine kRd_sortOf hP (by omega) rfl ?_
  refine jx_stin (pc := 90) (p2 := [some (.ref 6), some (.int s0), some (.int (h.1 6 2)), some (.int (fRd_sortOf z8 x7)), none, none, none]) rfl (jlt rfl) rfl ?_
  refine jx_next (pc := 91) (pc' := 92) rfl rfl ?_
  refine jx_next (pc := 92) (pc' := 93) rfl rfl ?_
  refine jx_iceq (pc := 93) rfl (fun hc10 => ?_) (fun hc10 => ?_)
  · replace K := (if_pos hc10).symm.trans K
    refine jx_le (pl' := [some (.ref 6), some (.int s0), some (.int (h.1 6 2)), some (.int (fRd_sortOf z8 x7)), none, none, none]) (jle_v (jle_v (jle_v (jle_v (jle_n (jle_n (jle_n jle_nil))))))) ?_
    exact kRd_step_j101 hP  hd K HQ
  · replace K := (if_neg hc10).symm.trans K
    refine jx_next (pc := 96) (pc' := 97) rfl rfl ?_
    refine jx_next (pc := 97) (pc' := 98) rfl rfl ?_
    refine jx_icne (pc := 98) rfl (fun hc30 => ?_) (fun hc30 => ?_)
    · replace K := (if_pos hc30).symm.trans K
      refine jx_le (pl' := [some (.ref 6), some (.int s0), some (.int (h.1 6 2)), some (.int (fRd_sortOf z8 x7)), none, none, none]) (jle_v (jle_v (jle_v (jle_v (jle_n (jle_n (jle_n jle_nil))))))) ?_
      exact kRd_step_j101 hP  hd K HQ
    · replace K := (if_neg hc30).symm.trans K
      refine jx_next (pc := 105) (pc' := 106) rfl rfl ?_
      refine jx_le (pl' := [some (.ref 6), some (.int s0), some (.int (h.1 6 2)), some (.int (fRd_sortOf z8 x7)), none, none, none]) (jle_v (jle_v (jle_v (jle_v (jle_n (jle_n (jle_n jle_nil))))))) ?_
      exact kRd_step_j106 hP  hd K HQ
noncomputable def fRd_step_j16  (h : jH) : Option jH :=
  fRd_step_j21  1 h
theorem kRd_step_j16 {X : jX} {dd : Nat} {p d : Nat} {q : Nat → Nat} {Q : Option Value → jS → Prop}  {h : jH} (hP : jOK p d q)  (hd : 1 ≤ (dd + 1)) {z : jH} (K : fRd_step_j16  h = some z) (HQ : Q none (176, jRf p d q, z)) :
    jEx X (dd + 1) jc_26 16 [some (.ref 6), none, none, none, none, none, none] [] (176, jRf p d q, h) Q := by
  unfold fRd_step_j16 at K
  refine jx_next (pc := 16) (pc' := 17) rfl rfl ?_
  refine jx_next (pc := 17) (pc' := 21) rfl rfl ?_
  refine jx_le (pl' := [some (.ref 6), none, none, none, none, none, none]) (jle_v (jle_n (jle_n (jle_n (jle_n (jle_n (jle_n jle_nil))))))) ?_
  exact kRd_step_j21 hP  hd K HQ
/-- AndGuest$Reader.step()V -/
noncomputable def fRd_step  (h : jH) : Option jH :=
  (if (h.1 6 3) = 1 then
  fRd_step_j16  h
  else
  (if (h.1 6 3) = 2 then
  fRd_step_j16  h
  else
  fRd_step_j21  0 h))
theorem kRd_step {X : jX} {dd : Nat} {p d : Nat} {q : Nat → Nat} {Q : Option Value → jS → Prop}  {h : jH} (hP : jOK p d q)  (hd : 1 ≤ dd) {z : jH} (K : fRd_step  h = some z) (HQ : Q none (176, jRf p d q, z)) :
    jCa X dd 26 [.ref 6] (176, jRf p d q, h) Q := by
  obtain ⟨dd, rfl⟩ : ∃ d9, dd = d9 + 1 := ⟨dd - 1, by omega⟩
  unfold fRd_step at K
  refine jCa_of (es := jc_26) (pl := [some (.ref 6), none, none, none, none, none, none]) (M := jm_26) rfl rfl rfl rfl ?_
  refine jx_next (pc := 0) (pc' := 1) rfl rfl ?_
  refine jx_geti (pc := 1) rfl jko_6 ?_
  refine jx_next (pc := 4) (pc' := 5) rfl rfl ?_
  refine jx_iceq (pc := 5) rfl (fun hc1 => ?_) (fun hc1 => ?_)
  · replace K := (if_pos hc1).symm.trans K
    refine jx_le (pl' := [some (.ref 6), none, none, none, none, none, none]) (jle_v (jle_n (jle_n (jle_n (jle_n (jle_n (jle_n jle_nil))))))) ?_
    exact kRd_step_j16 hP  hd K HQ
  · replace K := (if_neg hc1).symm.trans K
    refine jx_next (pc := 8) (pc' := 9) rfl rfl ?_
    refine jx_geti (pc := 9) rfl jko_6 ?_
    refine jx_next (pc := 12) (pc' := 13) rfl rfl ?_
    refine jx_icne (pc := 13) rfl (fun hc31 => ?_) (fun hc31 => ?_)
    · replace K := (if_pos hc31).symm.trans K
      refine jx_le (pl' := [some (.ref 6), none, none, none, none, none, none]) (jle_v (jle_n (jle_n (jle_n (jle_n (jle_n (jle_n jle_nil))))))) ?_
      exact kRd_step_j16 hP  hd K HQ
    · replace K := (if_neg hc31).symm.trans K
      refine jx_next (pc := 20) (pc' := 21) rfl rfl ?_
      refine jx_le (pl' := [some (.ref 6), none, none, none, none, none, none]) (jle_v (jle_n (jle_n (jle_n (jle_n (jle_n (jle_n jle_nil))))))) ?_
      exact kRd_step_j21 hP  hd K HQ
/-- AndGuest$Reader.begin()V -/
noncomputable def fRd_begin  (h : jH) : Option jH :=
  (Option.bind (fRd_step (jhI (jhI (jhI (jhI h 6 2 0) 6 5 0) 6 6 (-1)) 6 3 3)) (fun (z1 : jH) =>
  some z1))
theorem kRd_begin {X : jX} {dd : Nat} {p d : Nat} {q : Nat → Nat} {Q : Option Value → jS → Prop}  {h : jH} (hP : jOK p d q)  (hd : 2 ≤ dd) {z : jH} (K : fRd_begin  h = some z) (HQ : Q none (176, jRf p d q, z)) :
    jCa X dd 25 [.ref 6] (176, jRf p d q, h) Q := by
  obtain ⟨dd, rfl⟩ : ∃ d9, dd = d9 + 1 := ⟨dd - 1, by omega⟩
  unfold fRd_begin at K
  refine jCa_of (es := jc_25) (pl := [some (.ref 6)]) (M := jm_25) rfl rfl rfl rfl ?_
  refine jx_next (pc := 0) (pc' := 1) rfl rfl ?_
  refine jx_next (pc := 1) (pc' := 2) rfl rfl ?_
  refine jx_puti (pc := 2) rfl jko_6 ?_
  refine jx_next (pc := 5) (pc' := 6) rfl rfl ?_
  refine jx_next (pc := 6) (pc' := 7) rfl rfl ?_
  refine jx_puti (pc := 7) rfl jko_6 ?_
  refine jx_next (pc := 10) (pc' := 11) rfl rfl ?_
  refine jx_next (pc := 11) (pc' := 12) rfl rfl ?_
  refine jx_puti (pc := 12) rfl jko_6 ?_
  refine jx_next (pc := 15) (pc' := 16) rfl rfl ?_
  refine jx_next (pc := 16) (pc' := 17) rfl rfl ?_
  refine jx_puti (pc := 17) rfl jko_6 ?_
  refine jx_next (pc := 20) (pc' := 21) rfl rfl ?_
  refine jx_callv (pc := 21) (o := 6) (rest := []) rfl ⟨by decide, by decide⟩ rfl jko_6 (Nat.le_of_ble_eq_true rfl) ?_
  obtain ⟨z1, hz_z1, K⟩ := Option.bind_eq_some_iff.mp K
  refine kRd_step hP (by omega) hz_z1 ?_
  obtain rfl := Option.some.inj K
  exact jx_ret (pc := 24) rfl rfl HQ
/-- AndGuest$Reader.standsWord(LAndGuest$Word;)Z -/
noncomputable def fRd_standsWord (v1 : Nat) (h : jH) : Int32 :=
  (if (h.1 6 3) = 1 then
  (if (h.1 6 4) = (jwc v1 0) then
  (1 : Int32)
  else
  (0 : Int32))
  else
  (0 : Int32))
theorem kRd_standsWord {X : jX} {dd : Nat} {p d : Nat} {q : Nat → Nat} {Q : Option Value → jS → Prop} {v1 : Nat} {h : jH} (hP : jOK p d q) (hv1 : jcl 176 v1 = 13) (hd : 0 ≤ dd) {z : Int32} (K : fRd_standsWord v1 h = z) (HQ : Q (some (.int z)) (176, jRf p d q, h)) :
    jCa X dd 35 [.ref 6, .ref v1] (176, jRf p d q, h) Q := by
  unfold fRd_standsWord at K
  refine jCa_of (es := jc_35) (pl := [some (.ref 6), some (.ref v1)]) (M := jm_35) rfl rfl rfl rfl ?_
  refine jx_next (pc := 0) (pc' := 1) rfl rfl ?_
  refine jx_geti (pc := 1) rfl jko_6 ?_
  refine jx_next (pc := 4) (pc' := 5) rfl rfl ?_
  refine jx_icne (pc := 5) rfl (fun hc1 => ?_) (fun hc1 => ?_)
  · replace K := (if_pos hc1).symm.trans K
    refine jx_next (pc := 8) (pc' := 9) rfl rfl ?_
    refine jx_geti (pc := 9) rfl jko_6 ?_
    refine jx_next (pc := 12) (pc' := 13) rfl rfl ?_
    refine jx_getw (pc := 13) rfl hv1 ?_
    refine jx_icne (pc := 16) rfl (fun hc2 => ?_) (fun hc2 => ?_)
    · replace K := (if_pos hc2).symm.trans K
      refine jx_next (pc := 19) (pc' := 20) rfl rfl ?_
      refine jx_next (pc := 20) (pc' := 24) rfl rfl ?_
      obtain rfl := K
      exact jx_zret (pc := 24) rfl (Or.inr rfl) HQ
    · replace K := (if_neg hc2).symm.trans K
      refine jx_next (pc := 23) (pc' := 24) rfl rfl ?_
      obtain rfl := K
      exact jx_zret (pc := 24) rfl (Or.inl rfl) HQ
  · replace K := (if_neg hc1).symm.trans K
    refine jx_next (pc := 23) (pc' := 24) rfl rfl ?_
    obtain rfl := K
    exact jx_zret (pc := 24) rfl (Or.inl rfl) HQ
noncomputable def fRd_fail_j17  (h : jH) : jH :=
  jhI h 6 3 5
theorem kRd_fail_j17 {X : jX} {dd : Nat} {p d : Nat} {q : Nat → Nat} {Q : Option Value → jS → Prop}  {h : jH} (hP : jOK p d q)  (hd : 0 ≤ dd) {z : jH} (K : fRd_fail_j17  h = z) (HQ : Q none (176, jRf p d q, z)) :
    jEx X dd jc_37 17 [some (.ref 6), none, none] [] (176, jRf p d q, h) Q := by
  unfold fRd_fail_j17 at K
  refine jx_next (pc := 17) (pc' := 18) rfl rfl ?_
  refine jx_next (pc := 18) (pc' := 19) rfl rfl ?_
  refine jx_puti (pc := 19) rfl jko_6 ?_
  obtain rfl := K
  exact jx_ret (pc := 22) rfl rfl HQ
/-- AndGuest$Reader.fail(II)V -/
noncomputable def fRd_fail (v1 : Int32) (v2 : Int32) (h : jH) : jH :=
  (if (h.1 6 5) = 0 then
  fRd_fail_j17  (jhI (jhI h 6 5 v1) 6 6 v2)
  else
  fRd_fail_j17  h)
theorem kRd_fail {X : jX} {dd : Nat} {p d : Nat} {q : Nat → Nat} {Q : Option Value → jS → Prop} {v1 : Int32} {v2 : Int32} {h : jH} (hP : jOK p d q)  (hd : 0 ≤ dd) {z : jH} (K : fRd_fail v1 v2 h = z) (HQ : Q none (176, jRf p d q, z)) :
    jCa X dd 37 [.ref 6, .int v1, .int v2] (176, jRf p d q, h) Q := by
  unfold fRd_fail at K
  refine jCa_of (es := jc_37) (pl := [some (.ref 6), some (.int v1), some (.int v2)]) (M := jm_37) rfl rfl rfl rfl ?_
  refine jx_next (pc := 0) (pc' := 1) rfl rfl ?_
  refine jx_geti (pc := 1) rfl jko_6 ?_
  refine jx_ifne (pc := 4) rfl (fun hc1 => ?_) (fun hc1 => ?_)
  · replace K := (if_pos hc1).symm.trans K
    refine jx_next (pc := 7) (pc' := 8) rfl rfl ?_
    refine jx_next (pc := 8) (pc' := 9) rfl rfl ?_
    refine jx_puti (pc := 9) rfl jko_6 ?_
    refine jx_next (pc := 12) (pc' := 13) rfl rfl ?_
    refine jx_next (pc := 13) (pc' := 14) rfl rfl ?_
    refine jx_puti (pc := 14) rfl jko_6 ?_
    refine jx_le (pl' := [some (.ref 6), none, none]) (jle_v (jle_n (jle_n jle_nil))) ?_
    exact kRd_fail_j17 hP  hd K HQ
  · replace K := (if_neg hc1).symm.trans K
    refine jx_le (pl' := [some (.ref 6), none, none]) (jle_v (jle_n (jle_n jle_nil))) ?_
    exact kRd_fail_j17 hP  hd K HQ
/-- AndGuest$Reader.failHere(I)V -/
noncomputable def fRd_failHere (v1 : Int32) (h : jH) : jH :=
  (fRd_fail v1 (h.1 6 1) h)
theorem kRd_failHere {X : jX} {dd : Nat} {p d : Nat} {q : Nat → Nat} {Q : Option Value → jS → Prop} {v1 : Int32} {h : jH} (hP : jOK p d q)  (hd : 1 ≤ dd) {z : jH} (K : fRd_failHere v1 h = z) (HQ : Q none (176, jRf p d q, z)) :
    jCa X dd 36 [.ref 6, .int v1] (176, jRf p d q, h) Q := by
  obtain ⟨dd, rfl⟩ : ∃ d9, dd = d9 + 1 := ⟨dd - 1, by omega⟩
  unfold fRd_failHere at K
  refine jCa_of (es := jc_36) (pl := [some (.ref 6), some (.int v1)]) (M := jm_36) rfl rfl rfl rfl ?_
  refine jx_next (pc := 0) (pc' := 1) rfl rfl ?_
  refine jx_next (pc := 1) (pc' := 2) rfl rfl ?_
  refine jx_next (pc := 2) (pc' := 3) rfl rfl ?_
  refine jx_geti (pc := 3) rfl jko_6 ?_
  refine jx_callv (pc := 6) (o := 6) (rest := []) rfl ⟨by decide, by decide⟩ rfl jko_6 (Nat.le_of_ble_eq_true rfl) ?_
  refine kRd_fail hP (by omega) rfl ?_
  obtain rfl := K
  exact jx_ret (pc := 9) rfl rfl HQ
/-- AndGuest$Reader.wantsWord(LAndGuest$Word;)V -/
noncomputable def fRd_wantsWord (v1 : Nat) (h : jH) : Option jH :=
  (if (fRd_standsWord v1 h) = 0 then
  some (fRd_failHere 1 h)
  else
  (Option.bind (fRd_step h) (fun (z4 : jH) =>
  some z4)))
theorem kRd_wantsWord {X : jX} {dd : Nat} {p d : Nat} {q : Nat → Nat} {Q : Option Value → jS → Prop} {v1 : Nat} {h : jH} (hP : jOK p d q) (hv1 : jcl 176 v1 = 13) (hd : 2 ≤ dd) {z : jH} (K : fRd_wantsWord v1 h = some z) (HQ : Q none (176, jRf p d q, z)) :
    jCa X dd 34 [.ref 6, .ref v1] (176, jRf p d q, h) Q := by
  obtain ⟨dd, rfl⟩ : ∃ d9, dd = d9 + 1 := ⟨dd - 1, by omega⟩
  unfold fRd_wantsWord at K
  refine jCa_of (es := jc_34) (pl := [some (.ref 6), some (.ref v1)]) (M := jm_34) rfl rfl rfl rfl ?_
  refine jx_next (pc := 0) (pc' := 1) rfl rfl ?_
  refine jx_next (pc := 1) (pc' := 2) rfl rfl ?_
  refine jx_callv (pc := 2) (o := 6) (rest := []) rfl ⟨by decide, by decide⟩ rfl jko_6 (Nat.le_of_ble_eq_true rfl) ?_
  refine kRd_standsWord hP hv1 (by omega) rfl ?_
  refine jx_ifeq (pc := 5) rfl (fun hc2 => ?_) (fun hc2 => ?_)
  · replace K := (if_pos hc2).symm.trans K
    refine jx_next (pc := 15) (pc' := 16) rfl rfl ?_
    refine jx_next (pc := 16) (pc' := 17) rfl rfl ?_
    refine jx_callv (pc := 17) (o := 6) (rest := []) rfl ⟨by decide, by decide⟩ rfl jko_6 (Nat.le_of_ble_eq_true rfl) ?_
    refine kRd_failHere hP (by omega) rfl ?_
    obtain rfl := Option.some.inj K
    exact jx_ret (pc := 20) rfl rfl HQ
  · replace K := (if_neg hc2).symm.trans K
    refine jx_next (pc := 8) (pc' := 9) rfl rfl ?_
    refine jx_callv (pc := 9) (o := 6) (rest := []) rfl ⟨by decide, by decide⟩ rfl jko_6 (Nat.le_of_ble_eq_true rfl) ?_
    obtain ⟨z4, hz_z4, K⟩ := Option.bind_eq_some_iff.mp K
    refine kRd_step hP (by omega) hz_z4 ?_
    refine jx_next (pc := 12) (pc' := 20) rfl rfl ?_
    obtain rfl := Option.some.inj K
    exact jx_ret (pc := 20) rfl rfl HQ
/-- AndGuest$Reader.wantsNumber(I)I -/
noncomputable def fRd_wantsNumber (v1 : Int32) (h : jH) : Option (Int32 × jH) :=
  (if (h.1 6 3) = 2 then
  (if 4 < ((h.1 6 2) - (h.1 6 1)) then
  some (0, (fRd_fail 1 ((h.1 6 1) + 4) h))
  else
  (if v1 < (h.1 6 4) then
  some (0, (fRd_failHere 2 h))
  else
  (Option.bind (fRd_step h) (fun (z6 : jH) =>
  some (h.1 6 4, z6)))))
  else
  some (0, (fRd_failHere 1 h)))
theorem kRd_wantsNumber {X : jX} {dd : Nat} {p d : Nat} {q : Nat → Nat} {Q : Option Value → jS → Prop} {v1 : Int32} {h : jH} (hP : jOK p d q)  (hd : 2 ≤ dd) {z : Int32 × jH} (K : fRd_wantsNumber v1 h = some z) (HQ : Q (some (.int z.1)) (176, jRf p d q, z.2)) :
    jCa X dd 38 [.ref 6, .int v1] (176, jRf p d q, h) Q := by
  obtain ⟨dd, rfl⟩ : ∃ d9, dd = d9 + 1 := ⟨dd - 1, by omega⟩
  unfold fRd_wantsNumber at K
  refine jCa_of (es := jc_38) (pl := [some (.ref 6), some (.int v1), none]) (M := jm_38) rfl rfl rfl rfl ?_
  refine jx_next (pc := 0) (pc' := 1) rfl rfl ?_
  refine jx_geti (pc := 1) rfl jko_6 ?_
  refine jx_stin (pc := 4) (p2 := [some (.ref 6), some (.int v1), some (.int (h.1 6 4))]) rfl (jlt rfl) rfl ?_
  refine jx_next (pc := 5) (pc' := 6) rfl rfl ?_
  refine jx_geti (pc := 6) rfl jko_6 ?_
  refine jx_next (pc := 9) (pc' := 10) rfl rfl ?_
  refine jx_iceq (pc := 10) rfl (fun hc1 => ?_) (fun hc1 => ?_)
  · replace K := (if_pos hc1).symm.trans K
    refine jx_next (pc := 21) (pc' := 22) rfl rfl ?_
    refine jx_geti (pc := 22) rfl jko_6 ?_
    refine jx_next (pc := 25) (pc' := 26) rfl rfl ?_
    refine jx_geti (pc := 26) rfl jko_6 ?_
    refine jx_next (pc := 29) (pc' := 30) rfl rfl ?_
    refine jx_next (pc := 30) (pc' := 31) rfl rfl ?_
    refine jx_icle (pc := 31) rfl (fun hc2 => ?_) (fun hc2 => ?_)
    · replace K := (if_pos hc2).symm.trans K
      refine jx_next (pc := 34) (pc' := 35) rfl rfl ?_
      refine jx_next (pc := 35) (pc' := 36) rfl rfl ?_
      refine jx_next (pc := 36) (pc' := 37) rfl rfl ?_
      refine jx_geti (pc := 37) rfl jko_6 ?_
      refine jx_next (pc := 40) (pc' := 41) rfl rfl ?_
      refine jx_next (pc := 41) (pc' := 42) rfl rfl ?_
      refine jx_callv (pc := 42) (o := 6) (rest := []) rfl ⟨by decide, by decide⟩ rfl jko_6 (Nat.le_of_ble_eq_true rfl) ?_
      refine kRd_fail hP (by omega) rfl ?_
      refine jx_next (pc := 45) (pc' := 67) rfl rfl ?_
      refine jx_next (pc := 67) (pc' := 68) rfl rfl ?_
      obtain rfl := Option.some.inj K
      exact jx_iret (pc := 68) rfl HQ
    · replace K := (if_neg hc2).symm.trans K
      refine jx_next (pc := 48) (pc' := 49) rfl rfl ?_
      refine jx_next (pc := 49) (pc' := 50) rfl rfl ?_
      refine jx_icle (pc := 50) rfl (fun hc4 => ?_) (fun hc4 => ?_)
      · replace K := (if_pos hc4).symm.trans K
        refine jx_next (pc := 53) (pc' := 54) rfl rfl ?_
        refine jx_next (pc := 54) (pc' := 55) rfl rfl ?_
        refine jx_callv (pc := 55) (o := 6) (rest := []) rfl ⟨by decide, by decide⟩ rfl jko_6 (Nat.le_of_ble_eq_true rfl) ?_
        refine kRd_failHere hP (by omega) rfl ?_
        refine jx_next (pc := 58) (pc' := 67) rfl rfl ?_
        refine jx_next (pc := 67) (pc' := 68) rfl rfl ?_
        obtain rfl := Option.some.inj K
        exact jx_iret (pc := 68) rfl HQ
      · replace K := (if_neg hc4).symm.trans K
        refine jx_next (pc := 61) (pc' := 62) rfl rfl ?_
        refine jx_callv (pc := 62) (o := 6) (rest := []) rfl ⟨by decide, by decide⟩ rfl jko_6 (Nat.le_of_ble_eq_true rfl) ?_
        obtain ⟨z6, hz_z6, K⟩ := Option.bind_eq_some_iff.mp K
        refine kRd_step hP (by omega) hz_z6 ?_
        refine jx_next (pc := 65) (pc' := 66) rfl rfl ?_
        obtain rfl := Option.some.inj K
        exact jx_iret (pc := 66) rfl HQ
  · replace K := (if_neg hc1).symm.trans K
    refine jx_next (pc := 13) (pc' := 14) rfl rfl ?_
    refine jx_next (pc := 14) (pc' := 15) rfl rfl ?_
    refine jx_callv (pc := 15) (o := 6) (rest := []) rfl ⟨by decide, by decide⟩ rfl jko_6 (Nat.le_of_ble_eq_true rfl) ?_
    refine kRd_failHere hP (by omega) rfl ?_
    refine jx_next (pc := 18) (pc' := 67) rfl rfl ?_
    refine jx_next (pc := 67) (pc' := 68) rfl rfl ?_
    obtain rfl := Option.some.inj K
    exact jx_iret (pc := 68) rfl HQ
/-- AndGuest$PlanReader.readSeats(LAndGuest$Plan;)V -/
noncomputable def fPr_readSeats (v1 : Nat) (h : jH) : Option jH :=
  (Option.bind (fRd_wantsWord 1000 h) (fun (z1 : jH) =>
  (Option.bind (fRd_wantsNumber 40 z1) (fun (z2 : Int32 × jH) =>
  (Option.bind (fRd_wantsWord 1001 (jhI z2.2 v1 3 z2.1)) (fun (z3 : jH) =>
  (Option.bind (fRd_wantsNumber 99 z3) (fun (z4 : Int32 × jH) =>
  (Option.bind (fRd_wantsWord 1002 (jhI z4.2 v1 4 z4.1)) (fun (z5 : jH) =>
  (Option.bind (fRd_wantsNumber 99 z5) (fun (z6 : Int32 × jH) =>
  (Option.bind (fRd_wantsWord 1003 (jhI z6.2 v1 5 z6.1)) (fun (z7 : jH) =>
  (Option.bind (fRd_wantsNumber 99 z7) (fun (z8 : Int32 × jH) =>
  some (jhI z8.2 v1 6 z8.1)))))))))))))))))
theorem kPr_readSeats {X : jX} {dd : Nat} {p d : Nat} {q : Nat → Nat} {Q : Option Value → jS → Prop} {v1 : Nat} {h : jH} (hP : jOK p d q) (hv1 : jcl 176 v1 = 10) (hd : 3 ≤ dd) {z : jH} (K : fPr_readSeats v1 h = some z) (HQ : Q none (176, jRf p d q, z)) :
    jCa X dd 33 [.ref 7, .ref v1] (176, jRf p d q, h) Q := by
  obtain ⟨dd, rfl⟩ : ∃ d9, dd = d9 + 1 := ⟨dd - 1, by omega⟩
  unfold fPr_readSeats at K
  refine jCa_of (es := jc_33) (pl := [some (.ref 7), some (.ref v1)]) (M := jm_33) rfl rfl rfl rfl ?_
  refine jx_next (pc := 0) (pc' := 1) rfl rfl ?_
  refine jx_getr2 (pc := 1) rfl jko_7 jr_4_0 ?_
  refine jx_next (pc := 4) (pc' := 7) rfl rfl ?_
  refine jx_callv (pc := 7) (o := 6) (rest := []) rfl ⟨by decide, by decide⟩ rfl jko_6 (Nat.le_of_ble_eq_true rfl) ?_
  obtain ⟨z1, hz_z1, K⟩ := Option.bind_eq_some_iff.mp K
  refine kRd_wantsWord hP (by decide) (by omega) hz_z1 ?_
  refine jx_next (pc := 10) (pc' := 11) rfl rfl ?_
  refine jx_next (pc := 11) (pc' := 12) rfl rfl ?_
  refine jx_getr2 (pc := 12) rfl jko_7 jr_4_0 ?_
  refine jx_next (pc := 15) (pc' := 17) rfl rfl ?_
  refine jx_callv (pc := 17) (o := 6) (rest := [.ref v1]) rfl ⟨by decide, by decide⟩ rfl jko_6 (Nat.le_of_ble_eq_true rfl) ?_
  obtain ⟨z2, hz_z2, K⟩ := Option.bind_eq_some_iff.mp K
  refine kRd_wantsNumber hP (by omega) hz_z2 ?_
  refine jx_puti (pc := 20) rfl hv1 ?_
  refine jx_next (pc := 23) (pc' := 24) rfl rfl ?_
  refine jx_getr2 (pc := 24) rfl jko_7 jr_4_0 ?_
  refine jx_next (pc := 27) (pc' := 30) rfl rfl ?_
  refine jx_callv (pc := 30) (o := 6) (rest := []) rfl ⟨by decide, by decide⟩ rfl jko_6 (Nat.le_of_ble_eq_true rfl) ?_
  obtain ⟨z3, hz_z3, K⟩ := Option.bind_eq_some_iff.mp K
  refine kRd_wantsWord hP (by decide) (by omega) hz_z3 ?_
  refine jx_next (pc := 33) (pc' := 34) rfl rfl ?_
  refine jx_next (pc := 34) (pc' := 35) rfl rfl ?_
  refine jx_getr2 (pc := 35) rfl jko_7 jr_4_0 ?_
  refine jx_next (pc := 38) (pc' := 40) rfl rfl ?_
  refine jx_callv (pc := 40) (o := 6) (rest := [.ref v1]) rfl ⟨by decide, by decide⟩ rfl jko_6 (Nat.le_of_ble_eq_true rfl) ?_
  obtain ⟨z4, hz_z4, K⟩ := Option.bind_eq_some_iff.mp K
  refine kRd_wantsNumber hP (by omega) hz_z4 ?_
  refine jx_puti (pc := 43) rfl hv1 ?_
  refine jx_next (pc := 46) (pc' := 47) rfl rfl ?_
  refine jx_getr2 (pc := 47) rfl jko_7 jr_4_0 ?_
  refine jx_next (pc := 50) (pc' := 53) rfl rfl ?_
  refine jx_callv (pc := 53) (o := 6) (rest := []) rfl ⟨by decide, by decide⟩ rfl jko_6 (Nat.le_of_ble_eq_true rfl) ?_
  obtain ⟨z5, hz_z5, K⟩ := Option.bind_eq_some_iff.mp K
  refine kRd_wantsWord hP (by decide) (by omega) hz_z5 ?_
  refine jx_next (pc := 56) (pc' := 57) rfl rfl ?_
  refine jx_next (pc := 57) (pc' := 58) rfl rfl ?_
  refine jx_getr2 (pc := 58) rfl jko_7 jr_4_0 ?_
  refine jx_next (pc := 61) (pc' := 63) rfl rfl ?_
  refine jx_callv (pc := 63) (o := 6) (rest := [.ref v1]) rfl ⟨by decide, by decide⟩ rfl jko_6 (Nat.le_of_ble_eq_true rfl) ?_
  obtain ⟨z6, hz_z6, K⟩ := Option.bind_eq_some_iff.mp K
  refine kRd_wantsNumber hP (by omega) hz_z6 ?_
  refine jx_puti (pc := 66) rfl hv1 ?_
  refine jx_next (pc := 69) (pc' := 70) rfl rfl ?_
  refine jx_getr2 (pc := 70) rfl jko_7 jr_4_0 ?_
  refine jx_next (pc := 73) (pc' := 76) rfl rfl ?_
  refine jx_callv (pc := 76) (o := 6) (rest := []) rfl ⟨by decide, by decide⟩ rfl jko_6 (Nat.le_of_ble_eq_true rfl) ?_
  obtain ⟨z7, hz_z7, K⟩ := Option.bind_eq_some_iff.mp K
  refine kRd_wantsWord hP (by decide) (by omega) hz_z7 ?_
  refine jx_next (pc := 79) (pc' := 80) rfl rfl ?_
  refine jx_next (pc := 80) (pc' := 81) rfl rfl ?_
  refine jx_getr2 (pc := 81) rfl jko_7 jr_4_0 ?_
  refine jx_next (pc := 84) (pc' := 86) rfl rfl ?_
  refine jx_callv (pc := 86) (o := 6) (rest := [.ref v1]) rfl ⟨by decide, by decide⟩ rfl jko_6 (Nat.le_of_ble_eq_true rfl) ?_
  obtain ⟨z8, hz_z8, K⟩ := Option.bind_eq_some_iff.mp K
  refine kRd_wantsNumber hP (by omega) hz_z8 ?_
  refine jx_puti (pc := 89) rfl hv1 ?_
  obtain rfl := Option.some.inj K
  exact jx_ret (pc := 92) rfl rfl HQ
/-- AndGuest$Reader.standsSign(C)Z -/
noncomputable def fRd_standsSign (v1 : Int32) (h : jH) : Int32 :=
  (if (h.1 6 3) = 3 then
  (if (h.1 6 4) = v1 then
  (1 : Int32)
  else
  (0 : Int32))
  else
  (0 : Int32))
theorem kRd_standsSign {X : jX} {dd : Nat} {p d : Nat} {q : Nat → Nat} {Q : Option Value → jS → Prop} {v1 : Int32} {h : jH} (hP : jOK p d q)  (hd : 0 ≤ dd) {z : Int32} (K : fRd_standsSign v1 h = z) (HQ : Q (some (.int z)) (176, jRf p d q, h)) :
    jCa X dd 40 [.ref 6, .int v1] (176, jRf p d q, h) Q := by
  unfold fRd_standsSign at K
  refine jCa_of (es := jc_40) (pl := [some (.ref 6), some (.int v1)]) (M := jm_40) rfl rfl rfl rfl ?_
  refine jx_next (pc := 0) (pc' := 1) rfl rfl ?_
  refine jx_geti (pc := 1) rfl jko_6 ?_
  refine jx_next (pc := 4) (pc' := 5) rfl rfl ?_
  refine jx_icne (pc := 5) rfl (fun hc1 => ?_) (fun hc1 => ?_)
  · replace K := (if_pos hc1).symm.trans K
    refine jx_next (pc := 8) (pc' := 9) rfl rfl ?_
    refine jx_geti (pc := 9) rfl jko_6 ?_
    refine jx_next (pc := 12) (pc' := 13) rfl rfl ?_
    refine jx_icne (pc := 13) rfl (fun hc2 => ?_) (fun hc2 => ?_)
    · replace K := (if_pos hc2).symm.trans K
      refine jx_next (pc := 16) (pc' := 17) rfl rfl ?_
      refine jx_next (pc := 17) (pc' := 21) rfl rfl ?_
      obtain rfl := K
      exact jx_zret (pc := 21) rfl (Or.inr rfl) HQ
    · replace K := (if_neg hc2).symm.trans K
      refine jx_next (pc := 20) (pc' := 21) rfl rfl ?_
      obtain rfl := K
      exact jx_zret (pc := 21) rfl (Or.inl rfl) HQ
  · replace K := (if_neg hc1).symm.trans K
    refine jx_next (pc := 20) (pc' := 21) rfl rfl ?_
    obtain rfl := K
    exact jx_zret (pc := 21) rfl (Or.inl rfl) HQ
/-- AndGuest$Reader.wantsSign(C)V -/
noncomputable def fRd_wantsSign (v1 : Int32) (h : jH) : Option jH :=
  (if (fRd_standsSign v1 h) = 0 then
  some (fRd_failHere 1 h)
  else
  (Option.bind (fRd_step h) (fun (z4 : jH) =>
  some z4)))
theorem kRd_wantsSign {X : jX} {dd : Nat} {p d : Nat} {q : Nat → Nat} {Q : Option Value → jS → Prop} {v1 : Int32} {h : jH} (hP : jOK p d q)  (hd : 2 ≤ dd) {z : jH} (K : fRd_wantsSign v1 h = some z) (HQ : Q none (176, jRf p d q, z)) :
    jCa X dd 39 [.ref 6, .int v1] (176, jRf p d q, h) Q := by
  obtain ⟨dd, rfl⟩ : ∃ d9, dd = d9 + 1 := ⟨dd - 1, by omega⟩
  unfold fRd_wantsSign at K
  refine jCa_of (es := jc_39) (pl := [some (.ref 6), some (.int v1)]) (M := jm_39) rfl rfl rfl rfl ?_
  refine jx_next (pc := 0) (pc' := 1) rfl rfl ?_
  refine jx_next (pc := 1) (pc' := 2) rfl rfl ?_
  refine jx_callv (pc := 2) (o := 6) (rest := []) rfl ⟨by decide, by decide⟩ rfl jko_6 (Nat.le_of_ble_eq_true rfl) ?_
  refine kRd_standsSign hP (by omega) rfl ?_
  refine jx_ifeq (pc := 5) rfl (fun hc2 => ?_) (fun hc2 => ?_)
  · replace K := (if_pos hc2).symm.trans K
    refine jx_next (pc := 15) (pc' := 16) rfl rfl ?_
    refine jx_next (pc := 16) (pc' := 17) rfl rfl ?_
    refine jx_callv (pc := 17) (o := 6) (rest := []) rfl ⟨by decide, by decide⟩ rfl jko_6 (Nat.le_of_ble_eq_true rfl) ?_
    refine kRd_failHere hP (by omega) rfl ?_
    obtain rfl := Option.some.inj K
    exact jx_ret (pc := 20) rfl rfl HQ
  · replace K := (if_neg hc2).symm.trans K
    refine jx_next (pc := 8) (pc' := 9) rfl rfl ?_
    refine jx_callv (pc := 9) (o := 6) (rest := []) rfl ⟨by decide, by decide⟩ rfl jko_6 (Nat.le_of_ble_eq_true rfl) ?_
    obtain ⟨z4, hz_z4, K⟩ := Option.bind_eq_some_iff.mp K
    refine kRd_step hP (by omega) hz_z4 ?_
    refine jx_next (pc := 12) (pc' := 20) rfl rfl ?_
    obtain rfl := Option.some.inj K
    exact jx_ret (pc := 20) rfl rfl HQ
/-- AndGuest$Reader.goesOn()Z -/
noncomputable def fRd_goesOn  (h : jH) : Int32 :=
  (if (h.1 6 3) = 0 then
  (0 : Int32)
  else
  (if (h.1 6 3) = 5 then
  (0 : Int32)
  else
  (1 : Int32)))
theorem kRd_goesOn {X : jX} {dd : Nat} {p d : Nat} {q : Nat → Nat} {Q : Option Value → jS → Prop}  {h : jH} (hP : jOK p d q)  (hd : 0 ≤ dd) {z : Int32} (K : fRd_goesOn  h = z) (HQ : Q (some (.int z)) (176, jRf p d q, h)) :
    jCa X dd 41 [.ref 6] (176, jRf p d q, h) Q := by
  unfold fRd_goesOn at K
  refine jCa_of (es := jc_41) (pl := [some (.ref 6)]) (M := jm_41) rfl rfl rfl rfl ?_
  refine jx_next (pc := 0) (pc' := 1) rfl rfl ?_
  refine jx_geti (pc := 1) rfl jko_6 ?_
  refine jx_ifeq (pc := 4) rfl (fun hc1 => ?_) (fun hc1 => ?_)
  · replace K := (if_pos hc1).symm.trans K
    refine jx_next (pc := 19) (pc' := 20) rfl rfl ?_
    obtain rfl := K
    exact jx_zret (pc := 20) rfl (Or.inl rfl) HQ
  · replace K := (if_neg hc1).symm.trans K
    refine jx_next (pc := 7) (pc' := 8) rfl rfl ?_
    refine jx_geti (pc := 8) rfl jko_6 ?_
    refine jx_next (pc := 11) (pc' := 12) rfl rfl ?_
    refine jx_iceq (pc := 12) rfl (fun hc2 => ?_) (fun hc2 => ?_)
    · replace K := (if_pos hc2).symm.trans K
      refine jx_next (pc := 19) (pc' := 20) rfl rfl ?_
      obtain rfl := K
      exact jx_zret (pc := 20) rfl (Or.inl rfl) HQ
    · replace K := (if_neg hc2).symm.trans K
      refine jx_next (pc := 15) (pc' := 16) rfl rfl ?_
      refine jx_next (pc := 16) (pc' := 20) rfl rfl ?_
      obtain rfl := K
      exact jx_zret (pc := 20) rfl (Or.inr rfl) HQ
