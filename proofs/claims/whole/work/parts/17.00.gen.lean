/-- java/lang/Math.max(II)I -/
noncomputable def fMt_max (v0 : Int32) (v1 : Int32) : Int32 :=
  (if v0 < v1 then
  (v1 : Int32)
  else
  (v0 : Int32))
theorem kMt_max {X : jX} {d : Nat} {R : jR} {Q : Option Value → jS → Prop} {v0 : Int32} {v1 : Int32} {h : jH}  (hd : 0 ≤ d) {z : Int32} (K : fMt_max v0 v1 = z) (HQ : Q (some (.int z)) (176, R, h)) :
    jCa X d 2 [.int v0, .int v1] (176, R, h) Q := by
  unfold fMt_max at K
  refine jCa_of (es := jc_2) (pl := [some (.int v0), some (.int v1)]) (M := jm_2) rfl rfl rfl rfl ?_
  refine jx_next (pc := 0) (pc' := 1) rfl rfl ?_
  refine jx_next (pc := 1) (pc' := 2) rfl rfl ?_
  refine jx_iclt (pc := 2) rfl (fun hc1 => ?_) (fun hc1 => ?_)
  · replace K := (if_pos hc1).symm.trans K
    refine jx_next (pc := 9) (pc' := 10) rfl rfl ?_
    obtain rfl := K
    exact jx_iret (pc := 10) rfl HQ
  · replace K := (if_neg hc1).symm.trans K
    refine jx_next (pc := 5) (pc' := 6) rfl rfl ?_
    refine jx_next (pc := 6) (pc' := 10) rfl rfl ?_
    obtain rfl := K
    exact jx_iret (pc := 10) rfl HQ
/-- AndGuest$Standing.imageSize(I)I -/
noncomputable def fSd_imageSize (v0 : Int32) : Int32 :=
  ((4 + (3 * v0)) + 1 : Int32)
theorem kSd_imageSize {X : jX} {d : Nat} {R : jR} {Q : Option Value → jS → Prop} {v0 : Int32} {h : jH}  (hd : 0 ≤ d) {z : Int32} (K : fSd_imageSize v0 = z) (HQ : Q (some (.int z)) (176, R, h)) :
    jCa X d 3 [.int v0] (176, R, h) Q := by
  unfold fSd_imageSize at K
  refine jCa_of (es := jc_3) (pl := [some (.int v0)]) (M := jm_3) rfl rfl rfl rfl ?_
  refine jx_next (pc := 0) (pc' := 1) rfl rfl ?_
  refine jx_next (pc := 1) (pc' := 2) rfl rfl ?_
  refine jx_next (pc := 2) (pc' := 3) rfl rfl ?_
  refine jx_next (pc := 3) (pc' := 4) rfl rfl ?_
  refine jx_next (pc := 4) (pc' := 5) rfl rfl ?_
  refine jx_next (pc := 5) (pc' := 6) rfl rfl ?_
  refine jx_next (pc := 6) (pc' := 7) rfl rfl ?_
  obtain rfl := K
  exact jx_iret (pc := 7) rfl HQ
/-- AndGuest$Tape.size()I -/
noncomputable def fTp_size (R : jR) (o : Nat) (h : jH) : Int32 :=
  (h.1 o 1 : Int32)
theorem kTp_size {X : jX} {d : Nat} {R : jR} {Q : Option Value → jS → Prop} {o : Nat} {h : jH} (hT : jTy R) (ho : jcl 176 o = 2) (hd : 0 ≤ d) {z : Int32} (K : fTp_size R o h = z) (HQ : Q (some (.int z)) (176, R, h)) :
    jCa X d 14 [.ref o] (176, R, h) Q := by
  unfold fTp_size at K
  refine jCa_of (es := jc_14) (pl := [some (.ref o)]) (M := jm_14) rfl rfl rfl rfl ?_
  refine jx_next (pc := 0) (pc' := 1) rfl rfl ?_
  refine jx_geti (pc := 1) rfl ho ?_
  obtain rfl := K
  exact jx_iret (pc := 4) rfl HQ
/-- AndGuest.refuse(I)V -/
noncomputable def fA_refuse (R : jR) (o : Nat) (v1 : Int32) (h : jH) : Option jH :=
  (if v1 < 0 then
  some h
  else
  (if v1 < (Int32.ofNat (jsh (R o 10)).2) then
  (if jin v1 (jsh (R o 10)).2 then
  (if jin v1 (jsh (R o 10)).2 then
  some (jhI h (R o 10) v1.toNatClampNeg ((h.1 (R o 10) v1.toNatClampNeg) + 1))
  else none)
  else none)
  else
  some h))
theorem kA_refuse {X : jX} {d : Nat} {R : jR} {Q : Option Value → jS → Prop} {o : Nat} {v1 : Int32} {h : jH} (hT : jTy R) (ho : jcl 176 o = 1) (hd : 0 ≤ d) {z : jH} (K : fA_refuse R o v1 h = some z) (HQ : Q none (176, R, z)) :
    jCa X d 15 [.ref o, .int v1] (176, R, h) Q := by
  unfold fA_refuse at K
  refine jCa_of (es := jc_15) (pl := [some (.ref o), some (.int v1)]) (M := jm_15) rfl rfl rfl rfl ?_
  refine jx_next (pc := 0) (pc' := 1) rfl rfl ?_
  refine jx_iflt (pc := 1) rfl (fun hc1 => ?_) (fun hc1 => ?_)
  · replace K := (if_pos hc1).symm.trans K
    obtain rfl := Option.some.inj K
    exact jx_ret (pc := 23) rfl rfl HQ
  · replace K := (if_neg hc1).symm.trans K
    refine jx_next (pc := 4) (pc' := 5) rfl rfl ?_
    refine jx_next (pc := 5) (pc' := 6) rfl rfl ?_
    refine jx_getr (pc := 6) rfl ho ?_
    refine jx_alen (pc := 9) rfl (jtR hT ho (k := 10) (c := 20) rfl) ⟨by decide, by decide⟩ ?_
    refine jx_icge (pc := 10) rfl (fun hc2 => ?_) (fun hc2 => ?_)
    · replace K := (if_pos hc2).symm.trans K
      refine jx_next (pc := 13) (pc' := 14) rfl rfl ?_
      refine jx_getr (pc := 14) rfl ho ?_
      refine jx_next (pc := 17) (pc' := 18) rfl rfl ?_
      refine jx_next (pc := 18) (pc' := 19) rfl rfl ?_
      obtain ⟨hg3, K⟩ := jguard K
      refine jx_iald (pc := 19) rfl (jtR hT ho (k := 10) (c := 20) rfl) hg3 ?_
      refine jx_next (pc := 20) (pc' := 21) rfl rfl ?_
      refine jx_next (pc := 21) (pc' := 22) rfl rfl ?_
      obtain ⟨hg4, K⟩ := jguard K
      refine jx_iast (pc := 22) rfl (jtR hT ho (k := 10) (c := 20) rfl) hg4 ?_
      obtain rfl := Option.some.inj K
      exact jx_ret (pc := 23) rfl rfl HQ
    · replace K := (if_neg hc2).symm.trans K
      obtain rfl := Option.some.inj K
      exact jx_ret (pc := 23) rfl rfl HQ
/-- AndGuest$Tape.put(I)V -/
noncomputable def fTp_put (R : jR) (o : Nat) (v1 : Int32) (h : jH) : Option jH :=
  (if (h.1 o 1) < (Int32.ofNat (jsh (R o 0)).2) then
  (if jin (h.1 o 1) (jsh (R o 0)).2 then
  some (jhI (jhI h (R o 0) (h.1 o 1).toNatClampNeg (v1 &&& 255)) o 1 (((jhI h (R o 0) (h.1 o 1).toNatClampNeg (v1 &&& 255)).1 o 1) + 1))
  else none)
  else
  some h)
theorem kTp_put {X : jX} {d : Nat} {R : jR} {Q : Option Value → jS → Prop} {o : Nat} {v1 : Int32} {h : jH} (hT : jTy R) (ho : jcl 176 o = 2) (hd : 0 ≤ d) {z : jH} (K : fTp_put R o v1 h = some z) (HQ : Q none (176, R, z)) :
    jCa X d 18 [.ref o, .int v1] (176, R, h) Q := by
  unfold fTp_put at K
  refine jCa_of (es := jc_18) (pl := [some (.ref o), some (.int v1)]) (M := jm_18) rfl rfl rfl rfl ?_
  refine jx_next (pc := 0) (pc' := 1) rfl rfl ?_
  refine jx_geti (pc := 1) rfl ho ?_
  refine jx_next (pc := 4) (pc' := 5) rfl rfl ?_
  refine jx_getr (pc := 5) rfl ho ?_
  refine jx_alen (pc := 8) rfl (jtR hT ho (k := 0) (c := 20) rfl) ⟨by decide, by decide⟩ ?_
  refine jx_icge (pc := 9) rfl (fun hc1 => ?_) (fun hc1 => ?_)
  · replace K := (if_pos hc1).symm.trans K
    refine jx_next (pc := 12) (pc' := 13) rfl rfl ?_
    refine jx_getr (pc := 13) rfl ho ?_
    refine jx_next (pc := 16) (pc' := 17) rfl rfl ?_
    refine jx_geti (pc := 17) rfl ho ?_
    refine jx_next (pc := 20) (pc' := 21) rfl rfl ?_
    refine jx_next (pc := 21) (pc' := 24) rfl rfl ?_
    refine jx_next (pc := 24) (pc' := 25) rfl rfl ?_
    obtain ⟨hg2, K⟩ := jguard K
    refine jx_iast (pc := 25) rfl (jtR hT ho (k := 0) (c := 20) rfl) hg2 ?_
    refine jx_next (pc := 26) (pc' := 27) rfl rfl ?_
    refine jx_next (pc := 27) (pc' := 28) rfl rfl ?_
    refine jx_geti (pc := 28) rfl ho ?_
    refine jx_next (pc := 31) (pc' := 32) rfl rfl ?_
    refine jx_next (pc := 32) (pc' := 33) rfl rfl ?_
    refine jx_puti (pc := 33) rfl ho ?_
    obtain rfl := Option.some.inj K
    exact jx_ret (pc := 36) rfl rfl HQ
  · replace K := (if_neg hc1).symm.trans K
    obtain rfl := Option.some.inj K
    exact jx_ret (pc := 36) rfl rfl HQ
/-- AndGuest$Tape.putPair(I)V -/
noncomputable def fTp_putPair (R : jR) (o : Nat) (v1 : Int32) (h : jH) : Option jH :=
  (Option.bind (fTp_put R o (v1 >>> (8 &&& 31)) h) (fun (z1 : jH) =>
  (Option.bind (fTp_put R o v1 z1) (fun (z2 : jH) =>
  some z2))))
theorem kTp_putPair {X : jX} {d : Nat} {R : jR} {Q : Option Value → jS → Prop} {o : Nat} {v1 : Int32} {h : jH} (hT : jTy R) (ho : jcl 176 o = 2) (hd : 1 ≤ d) {z : jH} (K : fTp_putPair R o v1 h = some z) (HQ : Q none (176, R, z)) :
    jCa X d 17 [.ref o, .int v1] (176, R, h) Q := by
  obtain ⟨d, rfl⟩ : ∃ d9, d = d9 + 1 := ⟨d - 1, by omega⟩
  unfold fTp_putPair at K
  refine jCa_of (es := jc_17) (pl := [some (.ref o), some (.int v1)]) (M := jm_17) rfl rfl rfl rfl ?_
  refine jx_next (pc := 0) (pc' := 1) rfl rfl ?_
  refine jx_next (pc := 1) (pc' := 2) rfl rfl ?_
  refine jx_next (pc := 2) (pc' := 4) rfl rfl ?_
  refine jx_next (pc := 4) (pc' := 5) rfl rfl ?_
  refine jx_callv (pc := 5) (o := o) (rest := []) rfl ⟨by decide, by decide⟩ rfl ho (Nat.le_of_ble_eq_true rfl) ?_
  obtain ⟨z1, hz_z1, K⟩ := Option.bind_eq_some_iff.mp K
  refine kTp_put hT ho (by omega) hz_z1 ?_
  refine jx_next (pc := 8) (pc' := 9) rfl rfl ?_
  refine jx_next (pc := 9) (pc' := 10) rfl rfl ?_
  refine jx_callv (pc := 10) (o := o) (rest := []) rfl ⟨by decide, by decide⟩ rfl ho (Nat.le_of_ble_eq_true rfl) ?_
  obtain ⟨z2, hz_z2, K⟩ := Option.bind_eq_some_iff.mp K
  refine kTp_put hT ho (by omega) hz_z2 ?_
  obtain rfl := Option.some.inj K
  exact jx_ret (pc := 13) rfl rfl HQ
/-- AndGuest$Tape.putFour(I)V -/
noncomputable def fTp_putFour (R : jR) (o : Nat) (v1 : Int32) (h : jH) : Option jH :=
  (Option.bind (fTp_putPair R o (v1 >>> (16 &&& 31)) h) (fun (z1 : jH) =>
  (Option.bind (fTp_putPair R o v1 z1) (fun (z2 : jH) =>
  some z2))))
theorem kTp_putFour {X : jX} {d : Nat} {R : jR} {Q : Option Value → jS → Prop} {o : Nat} {v1 : Int32} {h : jH} (hT : jTy R) (ho : jcl 176 o = 2) (hd : 2 ≤ d) {z : jH} (K : fTp_putFour R o v1 h = some z) (HQ : Q none (176, R, z)) :
    jCa X d 16 [.ref o, .int v1] (176, R, h) Q := by
  obtain ⟨d, rfl⟩ : ∃ d9, d = d9 + 1 := ⟨d - 1, by omega⟩
  unfold fTp_putFour at K
  refine jCa_of (es := jc_16) (pl := [some (.ref o), some (.int v1)]) (M := jm_16) rfl rfl rfl rfl ?_
  refine jx_next (pc := 0) (pc' := 1) rfl rfl ?_
  refine jx_next (pc := 1) (pc' := 2) rfl rfl ?_
  refine jx_next (pc := 2) (pc' := 4) rfl rfl ?_
  refine jx_next (pc := 4) (pc' := 5) rfl rfl ?_
  refine jx_callv (pc := 5) (o := o) (rest := []) rfl ⟨by decide, by decide⟩ rfl ho (Nat.le_of_ble_eq_true rfl) ?_
  obtain ⟨z1, hz_z1, K⟩ := Option.bind_eq_some_iff.mp K
  refine kTp_putPair hT ho (by omega) hz_z1 ?_
  refine jx_next (pc := 8) (pc' := 9) rfl rfl ?_
  refine jx_next (pc := 9) (pc' := 10) rfl rfl ?_
  refine jx_callv (pc := 10) (o := o) (rest := []) rfl ⟨by decide, by decide⟩ rfl ho (Nat.le_of_ble_eq_true rfl) ?_
  obtain ⟨z2, hz_z2, K⟩ := Option.bind_eq_some_iff.mp K
  refine kTp_putPair hT ho (by omega) hz_z2 ?_
  obtain rfl := Option.some.inj K
  exact jx_ret (pc := 13) rfl rfl HQ
/-- AndGuest.feed(IIIII)I -/
noncomputable def fA_feed (R : jR) (o : Nat) (v1 : Int32) (v2 : Int32) (v3 : Int32) (v4 : Int32) (v5 : Int32) (h : jH) : Option (Int32 × jH) :=
  (if 1600 < ((fTp_size R (R o 0) h) + 20) then
  (Option.bind (fA_refuse R o 0 h) (fun (z2 : jH) =>
  some ((-1), z2)))
  else
  (Option.bind (fTp_putFour R (R o 0) v1 h) (fun (z3 : jH) =>
  (Option.bind (fTp_putFour R (R o 0) v2 z3) (fun (z4 : jH) =>
  (Option.bind (fTp_putFour R (R o 0) v3 z4) (fun (z5 : jH) =>
  (Option.bind (fTp_putFour R (R o 0) v4 z5) (fun (z6 : jH) =>
  (Option.bind (fTp_putFour R (R o 0) v5 z6) (fun (z7 : jH) =>
  some (fTp_size R (R o 0) z7, z7))))))))))))
theorem kA_feed {X : jX} {d : Nat} {R : jR} {Q : Option Value → jS → Prop} {o : Nat} {v1 : Int32} {v2 : Int32} {v3 : Int32} {v4 : Int32} {v5 : Int32} {h : jH} (hT : jTy R) (ho : jcl 176 o = 1) (hd : 3 ≤ d) {z : Int32 × jH} (K : fA_feed R o v1 v2 v3 v4 v5 h = some z) (HQ : Q (some (.int z.1)) (176, R, z.2)) :
    jCa X d 13 [.ref o, .int v1, .int v2, .int v3, .int v4, .int v5] (176, R, h) Q := by
  obtain ⟨d, rfl⟩ : ∃ d9, d = d9 + 1 := ⟨d - 1, by omega⟩
  unfold fA_feed at K
  refine jCa_of (es := jc_13) (pl := [some (.ref o), some (.int v1), some (.int v2), some (.int v3), some (.int v4), some (.int v5)]) (M := jm_13) rfl rfl rfl rfl ?_
  refine jx_next (pc := 0) (pc' := 1) rfl rfl ?_
  refine jx_getr (pc := 1) rfl ho ?_
  refine jx_callv (pc := 4) (o := (R o 0)) (rest := []) rfl ⟨by decide, by decide⟩ rfl (jtR hT ho (k := 0) (c := 2) rfl) (Nat.le_of_ble_eq_true rfl) ?_
  refine kTp_size hT (jtR hT ho (k := 0) (c := 2) rfl) (by omega) rfl ?_
  refine jx_next (pc := 7) (pc' := 9) rfl rfl ?_
  refine jx_next (pc := 9) (pc' := 10) rfl rfl ?_
  refine jx_next (pc := 10) (pc' := 13) rfl rfl ?_
  refine jx_icle (pc := 13) rfl (fun hc1 => ?_) (fun hc1 => ?_)
  · replace K := (if_pos hc1).symm.trans K
    refine jx_next (pc := 16) (pc' := 17) rfl rfl ?_
    refine jx_next (pc := 17) (pc' := 18) rfl rfl ?_
    refine jx_callv (pc := 18) (o := o) (rest := []) rfl ⟨by decide, by decide⟩ rfl ho (Nat.le_of_ble_eq_true rfl) ?_
    obtain ⟨z2, hz_z2, K⟩ := Option.bind_eq_some_iff.mp K
    refine kA_refuse hT ho (by omega) hz_z2 ?_
    refine jx_next (pc := 21) (pc' := 22) rfl rfl ?_
    obtain rfl := Option.some.inj K
    exact jx_iret (pc := 22) rfl HQ
  · replace K := (if_neg hc1).symm.trans K
    refine jx_next (pc := 23) (pc' := 24) rfl rfl ?_
    refine jx_getr (pc := 24) rfl ho ?_
    refine jx_next (pc := 27) (pc' := 28) rfl rfl ?_
    refine jx_callv (pc := 28) (o := (R o 0)) (rest := []) rfl ⟨by decide, by decide⟩ rfl (jtR hT ho (k := 0) (c := 2) rfl) (Nat.le_of_ble_eq_true rfl) ?_
    obtain ⟨z3, hz_z3, K⟩ := Option.bind_eq_some_iff.mp K
    refine kTp_putFour hT (jtR hT ho (k := 0) (c := 2) rfl) (by omega) hz_z3 ?_
    refine jx_next (pc := 31) (pc' := 32) rfl rfl ?_
    refine jx_getr (pc := 32) rfl ho ?_
    refine jx_next (pc := 35) (pc' := 36) rfl rfl ?_
    refine jx_callv (pc := 36) (o := (R o 0)) (rest := []) rfl ⟨by decide, by decide⟩ rfl (jtR hT ho (k := 0) (c := 2) rfl) (Nat.le_of_ble_eq_true rfl) ?_
    obtain ⟨z4, hz_z4, K⟩ := Option.bind_eq_some_iff.mp K
    refine kTp_putFour hT (jtR hT ho (k := 0) (c := 2) rfl) (by omega) hz_z4 ?_
    refine jx_next (pc := 39) (pc' := 40) rfl rfl ?_
    refine jx_getr (pc := 40) rfl ho ?_
    refine jx_next (pc := 43) (pc' := 44) rfl rfl ?_
    refine jx_callv (pc := 44) (o := (R o 0)) (rest := []) rfl ⟨by decide, by decide⟩ rfl (jtR hT ho (k := 0) (c := 2) rfl) (Nat.le_of_ble_eq_true rfl) ?_
    obtain ⟨z5, hz_z5, K⟩ := Option.bind_eq_some_iff.mp K
    refine kTp_putFour hT (jtR hT ho (k := 0) (c := 2) rfl) (by omega) hz_z5 ?_
    refine jx_next (pc := 47) (pc' := 48) rfl rfl ?_
    refine jx_getr (pc := 48) rfl ho ?_
    refine jx_next (pc := 51) (pc' := 53) rfl rfl ?_
    refine jx_callv (pc := 53) (o := (R o 0)) (rest := []) rfl ⟨by decide, by decide⟩ rfl (jtR hT ho (k := 0) (c := 2) rfl) (Nat.le_of_ble_eq_true rfl) ?_
    obtain ⟨z6, hz_z6, K⟩ := Option.bind_eq_some_iff.mp K
    refine kTp_putFour hT (jtR hT ho (k := 0) (c := 2) rfl) (by omega) hz_z6 ?_
    refine jx_next (pc := 56) (pc' := 57) rfl rfl ?_
    refine jx_getr (pc := 57) rfl ho ?_
    refine jx_next (pc := 60) (pc' := 62) rfl rfl ?_
    refine jx_callv (pc := 62) (o := (R o 0)) (rest := []) rfl ⟨by decide, by decide⟩ rfl (jtR hT ho (k := 0) (c := 2) rfl) (Nat.le_of_ble_eq_true rfl) ?_
    obtain ⟨z7, hz_z7, K⟩ := Option.bind_eq_some_iff.mp K
    refine kTp_putFour hT (jtR hT ho (k := 0) (c := 2) rfl) (by omega) hz_z7 ?_
    refine jx_next (pc := 65) (pc' := 66) rfl rfl ?_
    refine jx_getr (pc := 66) rfl ho ?_
    refine jx_callv (pc := 69) (o := (R o 0)) (rest := []) rfl ⟨by decide, by decide⟩ rfl (jtR hT ho (k := 0) (c := 2) rfl) (Nat.le_of_ble_eq_true rfl) ?_
    refine kTp_size hT (jtR hT ho (k := 0) (c := 2) rfl) (by omega) rfl ?_
    obtain rfl := Option.some.inj K
    exact jx_iret (pc := 72) rfl HQ
/-- AndGuest$Tape.cut(I)V -/
noncomputable def fTp_cut (R : jR) (o : Nat) (v1 : Int32) (h : jH) : jH :=
  (if v1 < 0 then
  h
  else
  (if (h.1 o 1) < v1 then
  h
  else
  jhI h o 1 v1))
theorem kTp_cut {X : jX} {d : Nat} {R : jR} {Q : Option Value → jS → Prop} {o : Nat} {v1 : Int32} {h : jH} (hT : jTy R) (ho : jcl 176 o = 2) (hd : 0 ≤ d) {z : jH} (K : fTp_cut R o v1 h = z) (HQ : Q none (176, R, z)) :
    jCa X d 20 [.ref o, .int v1] (176, R, h) Q := by
  unfold fTp_cut at K
  refine jCa_of (es := jc_20) (pl := [some (.ref o), some (.int v1)]) (M := jm_20) rfl rfl rfl rfl ?_
  refine jx_next (pc := 0) (pc' := 1) rfl rfl ?_
  refine jx_iflt (pc := 1) rfl (fun hc1 => ?_) (fun hc1 => ?_)
  · replace K := (if_pos hc1).symm.trans K
    obtain rfl := K
    exact jx_ret (pc := 17) rfl rfl HQ
  · replace K := (if_neg hc1).symm.trans K
    refine jx_next (pc := 4) (pc' := 5) rfl rfl ?_
    refine jx_next (pc := 5) (pc' := 6) rfl rfl ?_
    refine jx_geti (pc := 6) rfl ho ?_
    refine jx_icgt (pc := 9) rfl (fun hc2 => ?_) (fun hc2 => ?_)
    · replace K := (if_pos hc2).symm.trans K
      obtain rfl := K
      exact jx_ret (pc := 17) rfl rfl HQ
    · replace K := (if_neg hc2).symm.trans K
      refine jx_next (pc := 12) (pc' := 13) rfl rfl ?_
      refine jx_next (pc := 13) (pc' := 14) rfl rfl ?_
      refine jx_puti (pc := 14) rfl ho ?_
      obtain rfl := K
      exact jx_ret (pc := 17) rfl rfl HQ
noncomputable def fA_end_j15 (R : jR) (o : Nat) (h : jH) : Option (Int32 × jH) :=
  (Option.bind (fA_refuse R o 0 h) (fun (z2 : jH) =>
  some (0, z2)))
theorem kA_end_j15 {X : jX} {d : Nat} {R : jR} {Q : Option Value → jS → Prop} {o : Nat} {h : jH} (hT : jTy R) (ho : jcl 176 o = 1) (hd : 1 ≤ (d + 1)) {z : Int32 × jH} (K : fA_end_j15 R o h = some z) (HQ : Q (some (.int z.1)) (176, R, z.2)) :
    jEx X (d + 1) jc_19 15 [some (.ref o), none] [] (176, R, h) Q := by
  unfold fA_end_j15 at K
  refine jx_next (pc := 15) (pc' := 16) rfl rfl ?_
  refine jx_next (pc := 16) (pc' := 17) rfl rfl ?_
  refine jx_callv (pc := 17) (o := o) (rest := []) rfl ⟨by decide, by decide⟩ rfl ho (Nat.le_of_ble_eq_true rfl) ?_
  obtain ⟨z2, hz_z2, K⟩ := Option.bind_eq_some_iff.mp K
  refine kA_refuse hT ho (by omega) hz_z2 ?_
  refine jx_next (pc := 20) (pc' := 21) rfl rfl ?_
  obtain rfl := Option.some.inj K
  exact jx_zret (pc := 21) rfl (Or.inl rfl) HQ
/-- AndGuest.end(I)Z -/
noncomputable def fA_end (R : jR) (o : Nat) (v1 : Int32) (h : jH) : Option (Int32 × jH) :=
  (if v1 < 0 then
  fA_end_j15 R o h
  else
  (if (fTp_size R (R o 0) h) < v1 then
  fA_end_j15 R o h
  else
  some (1, (fTp_cut R (R o 0) v1 h))))
theorem kA_end {X : jX} {d : Nat} {R : jR} {Q : Option Value → jS → Prop} {o : Nat} {v1 : Int32} {h : jH} (hT : jTy R) (ho : jcl 176 o = 1) (hd : 1 ≤ d) {z : Int32 × jH} (K : fA_end R o v1 h = some z) (HQ : Q (some (.int z.1)) (176, R, z.2)) :
    jCa X d 19 [.ref o, .int v1] (176, R, h) Q := by
  obtain ⟨d, rfl⟩ : ∃ d9, d = d9 + 1 := ⟨d - 1, by omega⟩
  unfold fA_end at K
  refine jCa_of (es := jc_19) (pl := [some (.ref o), some (.int v1)]) (M := jm_19) rfl rfl rfl rfl ?_
  refine jx_next (pc := 0) (pc' := 1) rfl rfl ?_
  refine jx_iflt (pc := 1) rfl (fun hc1 => ?_) (fun hc1 => ?_)
  · replace K := (if_pos hc1).symm.trans K
    refine jx_le (pl' := [some (.ref o), none]) (jle_v (jle_n jle_nil)) ?_
    exact kA_end_j15 hT ho hd K HQ
  · replace K := (if_neg hc1).symm.trans K
    refine jx_next (pc := 4) (pc' := 5) rfl rfl ?_
    refine jx_next (pc := 5) (pc' := 6) rfl rfl ?_
    refine jx_getr (pc := 6) rfl ho ?_
    refine jx_callv (pc := 9) (o := (R o 0)) (rest := [.int v1]) rfl ⟨by decide, by decide⟩ rfl (jtR hT ho (k := 0) (c := 2) rfl) (Nat.le_of_ble_eq_true rfl) ?_
    refine kTp_size hT (jtR hT ho (k := 0) (c := 2) rfl) (by omega) rfl ?_
    refine jx_icle (pc := 12) rfl (fun hc3 => ?_) (fun hc3 => ?_)
    · replace K := (if_pos hc3).symm.trans K
      refine jx_le (pl' := [some (.ref o), none]) (jle_v (jle_n jle_nil)) ?_
      exact kA_end_j15 hT ho hd K HQ
    · replace K := (if_neg hc3).symm.trans K
      refine jx_next (pc := 22) (pc' := 23) rfl rfl ?_
      refine jx_getr (pc := 23) rfl ho ?_
      refine jx_next (pc := 26) (pc' := 27) rfl rfl ?_
      refine jx_callv (pc := 27) (o := (R o 0)) (rest := []) rfl ⟨by decide, by decide⟩ rfl (jtR hT ho (k := 0) (c := 2) rfl) (Nat.le_of_ble_eq_true rfl) ?_
      refine kTp_cut hT (jtR hT ho (k := 0) (c := 2) rfl) (by omega) rfl ?_
      refine jx_next (pc := 30) (pc' := 31) rfl rfl ?_
      obtain rfl := Option.some.inj K
      exact jx_zret (pc := 31) rfl (Or.inr rfl) HQ
/-- AndGuest$Formula.clear()V -/
noncomputable def fFo_clear (R : jR) (o : Nat) (h : jH) : jH :=
  jhI h o 2 0
theorem kFo_clear {X : jX} {d : Nat} {R : jR} {Q : Option Value → jS → Prop} {o : Nat} {h : jH} (hT : jTy R) (ho : jcl 176 o = 5) (hd : 0 ≤ d) {z : jH} (K : fFo_clear R o h = z) (HQ : Q none (176, R, z)) :
    jCa X d 24 [.ref o] (176, R, h) Q := by
  unfold fFo_clear at K
  refine jCa_of (es := jc_24) (pl := [some (.ref o)]) (M := jm_24) rfl rfl rfl rfl ?_
  refine jx_next (pc := 0) (pc' := 1) rfl rfl ?_
  refine jx_next (pc := 1) (pc' := 2) rfl rfl ?_
  refine jx_puti (pc := 2) rfl ho ?_
  obtain rfl := K
  exact jx_ret (pc := 5) rfl rfl HQ
noncomputable def fPn_clear_l40_b (R : jR) (o : Nat) (v1 : Int32) (h : jH) : Option ((Int32 × jH) ⊕ (jH)) :=
  (if v1 < 8 then
  (if jin v1 (jsh (R o 15)).2 then
  (if jin v1 (jsh (R o 16)).2 then
  (if jin v1 (jsh (R o 17)).2 then
  some (.inl (v1 + 1, jhI (jhI (jhI h (R o 15) v1.toNatClampNeg 0) (R o 16) v1.toNatClampNeg 0) (R o 17) v1.toNatClampNeg 0))
  else none)
  else none)
  else none)
  else
  some (.inr h))
noncomputable def fPn_clear_l40 (R : jR) (o : Nat) : (Int32 × jH) → Option ((Int32 × jH) ⊕ (jH)) :=
  fun (s : Int32 × jH) => fPn_clear_l40_b R o s.1 s.2
theorem kPn_clear_l40_b {X : jX} {d : Nat} {R : jR} {Q : Option Value → jS → Prop} {o : Nat} {v1 : Int32} {h : jH} (hT : jTy R) (ho : jcl 176 o = 10) (hd : 1 ≤ (d + 1)) {z : (Int32 × jH) ⊕ (jH)} (K : fPn_clear_l40_b R o v1 h = some z) (HL : ∀ s : Int32 × jH, z = .inl s → jEx X (d + 1) jc_23 40 [some (.ref o), some (.int s.1)] [] (176, R, s.2) Q) (HE0 : ∀ x : jH, z = .inr x → jEx X (d + 1) jc_23 73 [none, none] [] (176, R, x) Q) :
    jEx X (d + 1) jc_23 40 [some (.ref o), some (.int v1)] [] (176, R, h) Q := by
  unfold fPn_clear_l40_b at K
  refine jx_next (pc := 40) (pc' := 41) rfl rfl ?_
  refine jx_next (pc := 41) (pc' := 43) rfl rfl ?_
  refine jx_icge (pc := 43) rfl (fun hc2 => ?_) (fun hc2 => ?_)
  · replace K := (if_pos hc2).symm.trans K
    refine jx_next (pc := 46) (pc' := 47) rfl rfl ?_
    refine jx_getr (pc := 47) rfl ho ?_
    refine jx_next (pc := 50) (pc' := 51) rfl rfl ?_
    refine jx_next (pc := 51) (pc' := 52) rfl rfl ?_
    obtain ⟨hg3, K⟩ := jguard K
    refine jx_iast (pc := 52) rfl (jtR hT ho (k := 15) (c := 20) rfl) hg3 ?_
    refine jx_next (pc := 53) (pc' := 54) rfl rfl ?_
    refine jx_getr (pc := 54) rfl ho ?_
    refine jx_next (pc := 57) (pc' := 58) rfl rfl ?_
    refine jx_next (pc := 58) (pc' := 59) rfl rfl ?_
    obtain ⟨hg4, K⟩ := jguard K
    refine jx_iast (pc := 59) rfl (jtR hT ho (k := 16) (c := 20) rfl) hg4 ?_
    refine jx_next (pc := 60) (pc' := 61) rfl rfl ?_
    refine jx_getr (pc := 61) rfl ho ?_
    refine jx_next (pc := 64) (pc' := 65) rfl rfl ?_
    refine jx_next (pc := 65) (pc' := 66) rfl rfl ?_
    obtain ⟨hg5, K⟩ := jguard K
    refine jx_iast (pc := 66) rfl (jtR hT ho (k := 17) (c := 20) rfl) hg5 ?_
    refine jx_inc (pc := 67) (x := v1) (p2 := [some (.ref o), some (.int (v1 + 1))]) rfl rfl (jlt rfl) rfl ?_
    refine jx_next (pc := 70) (pc' := 40) rfl rfl ?_
    obtain rfl := Option.some.inj K
    refine jx_le (pl' := [some (.ref o), some (.int (v1 + 1))]) (jle_v (jle_v jle_nil)) ?_
    exact HL _ rfl
  · replace K := (if_neg hc2).symm.trans K
    obtain rfl := Option.some.inj K
    refine jx_le (pl' := [none, none]) (jle_n (jle_n jle_nil)) ?_
    exact HE0 _ rfl
theorem kPn_clear_l40_w {X : jX} {d : Nat} {R : jR} {Q : Option Value → jS → Prop} {o : Nat} (hT : jTy R) (ho : jcl 176 o = 10) (hd : 1 ≤ (d + 1)) {s : Int32 × jH} {x : jH} (K : jlim (fPn_clear_l40 R o) s = some x) (HE : jEx X (d + 1) jc_23 73 [none, none] [] (176, R, x) Q) :
    jEx X (d + 1) jc_23 40 [some (.ref o), some (.int s.1)] [] (176, R, s.2) Q := by
  refine jlim_ok (G := fun s : Int32 × jH => jEx X (d + 1) jc_23 40 [some (.ref o), some (.int s.1)] [] (176, R, s.2) Q) (GX := fun x : jH => jEx X (d + 1) jc_23 73 [none, none] [] (176, R, x) Q) (fun s z hz HL HE => ?_) K HE
  exact kPn_clear_l40_b hT ho hd hz HL HE
/-- AndGuest$Plan.clear()V -/
noncomputable def fPn_clear (R : jR) (o : Nat) (h : jH) : Option jH :=
  (Option.bind (jlim (fPn_clear_l40 R o) (0, (fFo_clear R (R o 18) (jhI (jhI (jhI (jhI (jhI (jhI h o 0 0) o 1 0) o 2 0) o 7 5) o 8 50) o 9 2)))) (fun (x6 : jH) =>
  some x6))
theorem kPn_clear {X : jX} {d : Nat} {R : jR} {Q : Option Value → jS → Prop} {o : Nat} {h : jH} (hT : jTy R) (ho : jcl 176 o = 10) (hd : 1 ≤ d) {z : jH} (K : fPn_clear R o h = some z) (HQ : Q none (176, R, z)) :
    jCa X d 23 [.ref o] (176, R, h) Q := by
  obtain ⟨d, rfl⟩ : ∃ d9, d = d9 + 1 := ⟨d - 1, by omega⟩
  unfold fPn_clear at K
  refine jCa_of (es := jc_23) (pl := [some (.ref o), none]) (M := jm_23) rfl rfl rfl rfl ?_
  refine jx_next (pc := 0) (pc' := 1) rfl rfl ?_
  refine jx_next (pc := 1) (pc' := 2) rfl rfl ?_
  refine jx_puti (pc := 2) rfl ho ?_
  refine jx_next (pc := 5) (pc' := 6) rfl rfl ?_
  refine jx_next (pc := 6) (pc' := 7) rfl rfl ?_
  refine jx_puti (pc := 7) rfl ho ?_
  refine jx_next (pc := 10) (pc' := 11) rfl rfl ?_
  refine jx_next (pc := 11) (pc' := 12) rfl rfl ?_
  refine jx_puti (pc := 12) rfl ho ?_
  refine jx_next (pc := 15) (pc' := 16) rfl rfl ?_
  refine jx_next (pc := 16) (pc' := 17) rfl rfl ?_
  refine jx_puti (pc := 17) rfl ho ?_
  refine jx_next (pc := 20) (pc' := 21) rfl rfl ?_
  refine jx_next (pc := 21) (pc' := 23) rfl rfl ?_
  refine jx_puti (pc := 23) rfl ho ?_
  refine jx_next (pc := 26) (pc' := 27) rfl rfl ?_
  refine jx_next (pc := 27) (pc' := 28) rfl rfl ?_
  refine jx_puti (pc := 28) rfl ho ?_
  refine jx_next (pc := 31) (pc' := 32) rfl rfl ?_
  refine jx_getr (pc := 32) rfl ho ?_
  refine jx_callv (pc := 35) (o := (R o 18)) (rest := []) rfl ⟨by decide, by decide⟩ rfl (jtR hT ho (k := 18) (c := 5) rfl) (Nat.le_of_ble_eq_true rfl) ?_
  refine kFo_clear hT (jtR hT ho (k := 18) (c := 5) rfl) (by omega) rfl ?_
  refine jx_next (pc := 38) (pc' := 39) rfl rfl ?_
  refine jx_stin (pc := 39) (p2 := [some (.ref o), some (.int 0)]) rfl (jlt rfl) rfl ?_
  refine jx_le (pl' := [some (.ref o), some (.int 0)]) (jle_v (jle_v jle_nil)) ?_
  obtain ⟨x6, hz_x6, K⟩ := Option.bind_eq_some_iff.mp K
  refine kPn_clear_l40_w hT ho hd hz_x6 ?_
  obtain rfl := Option.some.inj K
  exact jx_ret (pc := 73) rfl rfl HQ
/-- AndGuest$Tape.byteAt(I)I -/
noncomputable def fTp_byteAt (R : jR) (o : Nat) (v1 : Int32) (h : jH) : Option Int32 :=
  (if v1 < 0 then
  some ((-1) : Int32)
  else
  (if v1 < (h.1 o 1) then
  (if v1 < (Int32.ofNat (jsh (R o 0)).2) then
  (if jin v1 (jsh (R o 0)).2 then
  some (h.1 (R o 0) v1.toNatClampNeg : Int32)
  else none)
  else
  some ((-1) : Int32))
  else
  some ((-1) : Int32)))
theorem kTp_byteAt {X : jX} {d : Nat} {R : jR} {Q : Option Value → jS → Prop} {o : Nat} {v1 : Int32} {h : jH} (hT : jTy R) (ho : jcl 176 o = 2) (hd : 0 ≤ d) {z : Int32} (K : fTp_byteAt R o v1 h = some z) (HQ : Q (some (.int z)) (176, R, h)) :
    jCa X d 27 [.ref o, .int v1] (176, R, h) Q := by
  unfold fTp_byteAt at K
  refine jCa_of (es := jc_27) (pl := [some (.ref o), some (.int v1)]) (M := jm_27) rfl rfl rfl rfl ?_
  refine jx_next (pc := 0) (pc' := 1) rfl rfl ?_
  refine jx_iflt (pc := 1) rfl (fun hc1 => ?_) (fun hc1 => ?_)
  · replace K := (if_pos hc1).symm.trans K
    refine jx_next (pc := 30) (pc' := 31) rfl rfl ?_
    obtain rfl := Option.some.inj K
    exact jx_iret (pc := 31) rfl HQ
  · replace K := (if_neg hc1).symm.trans K
    refine jx_next (pc := 4) (pc' := 5) rfl rfl ?_
    refine jx_next (pc := 5) (pc' := 6) rfl rfl ?_
    refine jx_geti (pc := 6) rfl ho ?_
    refine jx_icge (pc := 9) rfl (fun hc2 => ?_) (fun hc2 => ?_)
    · replace K := (if_pos hc2).symm.trans K
      refine jx_next (pc := 12) (pc' := 13) rfl rfl ?_
      refine jx_next (pc := 13) (pc' := 14) rfl rfl ?_
      refine jx_getr (pc := 14) rfl ho ?_
      refine jx_alen (pc := 17) rfl (jtR hT ho (k := 0) (c := 20) rfl) ⟨by decide, by decide⟩ ?_
      refine jx_icge (pc := 18) rfl (fun hc3 => ?_) (fun hc3 => ?_)
      · replace K := (if_pos hc3).symm.trans K
        refine jx_next (pc := 21) (pc' := 22) rfl rfl ?_
        refine jx_getr (pc := 22) rfl ho ?_
        refine jx_next (pc := 25) (pc' := 26) rfl rfl ?_
        obtain ⟨hg4, K⟩ := jguard K
        refine jx_iald (pc := 26) rfl (jtR hT ho (k := 0) (c := 20) rfl) hg4 ?_
        refine jx_next (pc := 27) (pc' := 31) rfl rfl ?_
        obtain rfl := Option.some.inj K
        exact jx_iret (pc := 31) rfl HQ
      · replace K := (if_neg hc3).symm.trans K
        refine jx_next (pc := 30) (pc' := 31) rfl rfl ?_
        obtain rfl := Option.some.inj K
        exact jx_iret (pc := 31) rfl HQ
    · replace K := (if_neg hc2).symm.trans K
      refine jx_next (pc := 30) (pc' := 31) rfl rfl ?_
      obtain rfl := Option.some.inj K
      exact jx_iret (pc := 31) rfl HQ
/-- AndGuest$Reader.isBlank(I)Z -/
noncomputable def fRd_isBlank (v0 : Int32) : Int32 :=
  (if v0 = 32 then
  (1 : Int32)
  else
  (if v0 = 10 then
  (1 : Int32)
  else
  (0 : Int32)))
theorem kRd_isBlank {X : jX} {d : Nat} {R : jR} {Q : Option Value → jS → Prop} {v0 : Int32} {h : jH}  (hd : 0 ≤ d) {z : Int32} (K : fRd_isBlank v0 = z) (HQ : Q (some (.int z)) (176, R, h)) :
    jCa X d 28 [.int v0] (176, R, h) Q := by
  unfold fRd_isBlank at K
  refine jCa_of (es := jc_28) (pl := [some (.int v0)]) (M := jm_28) rfl rfl rfl rfl ?_
  refine jx_next (pc := 0) (pc' := 1) rfl rfl ?_
  refine jx_next (pc := 1) (pc' := 3) rfl rfl ?_
  refine jx_iceq (pc := 3) rfl (fun hc1 => ?_) (fun hc1 => ?_)
  · replace K := (if_pos hc1).symm.trans K
    refine jx_next (pc := 12) (pc' := 13) rfl rfl ?_
    refine jx_next (pc := 13) (pc' := 17) rfl rfl ?_
    obtain rfl := K
    exact jx_zret (pc := 17) rfl (Or.inr rfl) HQ
  · replace K := (if_neg hc1).symm.trans K
    refine jx_next (pc := 6) (pc' := 7) rfl rfl ?_
    refine jx_next (pc := 7) (pc' := 9) rfl rfl ?_
    refine jx_icne (pc := 9) rfl (fun hc2 => ?_) (fun hc2 => ?_)
    · replace K := (if_pos hc2).symm.trans K
      refine jx_next (pc := 12) (pc' := 13) rfl rfl ?_
      refine jx_next (pc := 13) (pc' := 17) rfl rfl ?_
      obtain rfl := K
      exact jx_zret (pc := 17) rfl (Or.inr rfl) HQ
    · replace K := (if_neg hc2).symm.trans K
      refine jx_next (pc := 16) (pc' := 17) rfl rfl ?_
      obtain rfl := K
      exact jx_zret (pc := 17) rfl (Or.inl rfl) HQ
noncomputable def fRd_sortOf_j21 (R : jR) (v0 : Int32) (h : jH) : Int32 :=
  (if v0 < 48 then
  (3 : Int32)
  else
  (if 57 < v0 then
  (3 : Int32)
  else
  (2 : Int32)))
theorem kRd_sortOf_j21 {X : jX} {d : Nat} {R : jR} {Q : Option Value → jS → Prop} {v0 : Int32} {h : jH} (hT : jTy R)  (hd : 0 ≤ d) {z : Int32} (K : fRd_sortOf_j21 R v0 h = z) (HQ : Q (some (.int z)) (176, R, h)) :
    jEx X d jc_29 21 [some (.int v0)] [] (176, R, h) Q := by
  unfold fRd_sortOf_j21 at K
  refine jx_next (pc := 21) (pc' := 22) rfl rfl ?_
  refine jx_next (pc := 22) (pc' := 24) rfl rfl ?_
  refine jx_iclt (pc := 24) rfl (fun hc3 => ?_) (fun hc3 => ?_)
  · replace K := (if_pos hc3).symm.trans K
    refine jx_next (pc := 37) (pc' := 38) rfl rfl ?_
    obtain rfl := K
    exact jx_iret (pc := 38) rfl HQ
  · replace K := (if_neg hc3).symm.trans K
    refine jx_next (pc := 27) (pc' := 28) rfl rfl ?_
    refine jx_next (pc := 28) (pc' := 30) rfl rfl ?_
    refine jx_icgt (pc := 30) rfl (fun hc4 => ?_) (fun hc4 => ?_)
    · replace K := (if_pos hc4).symm.trans K
      refine jx_next (pc := 37) (pc' := 38) rfl rfl ?_
      obtain rfl := K
      exact jx_iret (pc := 38) rfl HQ
    · replace K := (if_neg hc4).symm.trans K
      refine jx_next (pc := 33) (pc' := 34) rfl rfl ?_
      refine jx_next (pc := 34) (pc' := 38) rfl rfl ?_
      obtain rfl := K
      exact jx_iret (pc := 38) rfl HQ
/-- AndGuest$Reader.sortOf(I)I -/
noncomputable def fRd_sortOf (v0 : Int32) : Int32 :=
  (if v0 = (-1) then
  (0 : Int32)
  else
  (if v0 < 97 then
  fRd_sortOf_j21 R v0 h
  else
  (if 122 < v0 then
  fRd_sortOf_j21 R v0 h
  else
  (1 : Int32))))
theorem kRd_sortOf {X : jX} {d : Nat} {R : jR} {Q : Option Value → jS → Prop} {v0 : Int32} {h : jH}  (hd : 0 ≤ d) {z : Int32} (K : fRd_sortOf v0 = z) (HQ : Q (some (.int z)) (176, R, h)) :
    jCa X d 29 [.int v0] (176, R, h) Q := by
  unfold fRd_sortOf at K
  refine jCa_of (es := jc_29) (pl := [some (.int v0)]) (M := jm_29) rfl rfl rfl rfl ?_
  refine jx_next (pc := 0) (pc' := 1) rfl rfl ?_
  refine jx_next (pc := 1) (pc' := 2) rfl rfl ?_
  refine jx_icne (pc := 2) rfl (fun hc1 => ?_) (fun hc1 => ?_)
  · replace K := (if_pos hc1).symm.trans K
    refine jx_next (pc := 5) (pc' := 6) rfl rfl ?_
    obtain rfl := K
    exact jx_iret (pc := 6) rfl HQ
  · replace K := (if_neg hc1).symm.trans K
    refine jx_next (pc := 7) (pc' := 8) rfl rfl ?_
    refine jx_next (pc := 8) (pc' := 10) rfl rfl ?_
    refine jx_iclt (pc := 10) rfl (fun hc2 => ?_) (fun hc2 => ?_)
    · replace K := (if_pos hc2).symm.trans K
      refine jx_le (pl' := [some (.int v0)]) (jle_v jle_nil) ?_
      exact kRd_sortOf_j21 hT  hd K HQ
    · replace K := (if_neg hc2).symm.trans K
      refine jx_next (pc := 13) (pc' := 14) rfl rfl ?_
      refine jx_next (pc := 14) (pc' := 16) rfl rfl ?_
      refine jx_icgt (pc := 16) rfl (fun hc5 => ?_) (fun hc5 => ?_)
      · replace K := (if_pos hc5).symm.trans K
        refine jx_le (pl' := [some (.int v0)]) (jle_v jle_nil) ?_
        exact kRd_sortOf_j21 hT  hd K HQ
      · replace K := (if_neg hc5).symm.trans K
        refine jx_next (pc := 19) (pc' := 20) rfl rfl ?_
        obtain rfl := K
        exact jx_iret (pc := 20) rfl HQ
noncomputable def fWd_withLetter_j15 (R : jR) (v0 : Int32) (v1 : Int32) (v2 : Int32) (s0 : Int32) (h : jH) : Int32 :=
  (if s0 = 0 then
  (0 : Int32)
  else
  (v0 ||| (((v2 - 97) + 1) <<< ((5 * v1) &&& 31)) : Int32))
theorem kWd_withLetter_j15 {X : jX} {d : Nat} {R : jR} {Q : Option Value → jS → Prop} {v0 : Int32} {v1 : Int32} {v2 : Int32} {s0 : Int32} {h : jH} (hT : jTy R)  (hd : 0 ≤ d) {z : Int32} (K : fWd_withLetter_j15 R v0 v1 v2 s0 h = z) (HQ : Q (some (.int z)) (176, R, h)) :
    jEx X d jc_31 15 [some (.int v0), some (.int v1), some (.int v2), none] [.int s0] (176, R, h) Q := by
  unfold fWd_withLetter_j15 at K
  refine jx_stin (pc := 15) (p2 := [some (.int v0), some (.int v1), some (.int v2), some (.int s0)]) rfl (jlt rfl) rfl ?_
  refine jx_next (pc := 16) (pc' := 17) rfl rfl ?_
  refine jx_ifeq (pc := 17) rfl (fun hc2 => ?_) (fun hc2 => ?_)
  · replace K := (if_pos hc2).symm.trans K
    refine jx_next (pc := 35) (pc' := 36) rfl rfl ?_
    obtain rfl := K
    exact jx_iret (pc := 36) rfl HQ
  · replace K := (if_neg hc2).symm.trans K
    refine jx_next (pc := 20) (pc' := 21) rfl rfl ?_
    refine jx_next (pc := 21) (pc' := 22) rfl rfl ?_
    refine jx_next (pc := 22) (pc' := 24) rfl rfl ?_
    refine jx_next (pc := 24) (pc' := 25) rfl rfl ?_
    refine jx_next (pc := 25) (pc' := 26) rfl rfl ?_
    refine jx_next (pc := 26) (pc' := 27) rfl rfl ?_
    refine jx_next (pc := 27) (pc' := 28) rfl rfl ?_
    refine jx_next (pc := 28) (pc' := 29) rfl rfl ?_
    refine jx_next (pc := 29) (pc' := 30) rfl rfl ?_
    refine jx_next (pc := 30) (pc' := 31) rfl rfl ?_
    refine jx_next (pc := 31) (pc' := 32) rfl rfl ?_
    refine jx_next (pc := 32) (pc' := 36) rfl rfl ?_
    obtain rfl := K
    exact jx_iret (pc := 36) rfl HQ
noncomputable def fWd_withLetter_j14 (R : jR) (v0 : Int32) (v1 : Int32) (v2 : Int32) (h : jH) : Int32 :=
  fWd_withLetter_j15 R v0 v1 v2 0 h
theorem kWd_withLetter_j14 {X : jX} {d : Nat} {R : jR} {Q : Option Value → jS → Prop} {v0 : Int32} {v1 : Int32} {v2 : Int32} {h : jH} (hT : jTy R)  (hd : 0 ≤ d) {z : Int32} (K : fWd_withLetter_j14 R v0 v1 v2 h = z) (HQ : Q (some (.int z)) (176, R, h)) :
    jEx X d jc_31 14 [some (.int v0), some (.int v1), some (.int v2), none] [] (176, R, h) Q := by
  unfold fWd_withLetter_j14 at K
  refine jx_next (pc := 14) (pc' := 15) rfl rfl ?_
  refine jx_le (pl' := [some (.int v0), some (.int v1), some (.int v2), none]) (jle_v (jle_v (jle_v (jle_n jle_nil)))) ?_
  exact kWd_withLetter_j15 hT  hd K HQ
/-- AndGuest$Word.withLetter(III)I -/
noncomputable def fWd_withLetter (v0 : Int32) (v1 : Int32) (v2 : Int32) : Int32 :=
  (if v1 < 0 then
  fWd_withLetter_j14 R v0 v1 v2 h
  else
  (if v1 < 6 then
  fWd_withLetter_j15 R v0 v1 v2 1 h
  else
  fWd_withLetter_j14 R v0 v1 v2 h))
theorem kWd_withLetter {X : jX} {d : Nat} {R : jR} {Q : Option Value → jS → Prop} {v0 : Int32} {v1 : Int32} {v2 : Int32} {h : jH}  (hd : 0 ≤ d) {z : Int32} (K : fWd_withLetter v0 v1 v2 = z) (HQ : Q (some (.int z)) (176, R, h)) :
    jCa X d 31 [.int v0, .int v1, .int v2] (176, R, h) Q := by
  unfold fWd_withLetter at K
  refine jCa_of (es := jc_31) (pl := [some (.int v0), some (.int v1), some (.int v2), none]) (M := jm_31) rfl rfl rfl rfl ?_
  refine jx_next (pc := 0) (pc' := 1) rfl rfl ?_
  refine jx_iflt (pc := 1) rfl (fun hc1 => ?_) (fun hc1 => ?_)
  · replace K := (if_pos hc1).symm.trans K
    refine jx_le (pl' := [some (.int v0), some (.int v1), some (.int v2), none]) (jle_v (jle_v (jle_v (jle_n jle_nil)))) ?_
    exact kWd_withLetter_j14 hT  hd K HQ
  · replace K := (if_neg hc1).symm.trans K
    refine jx_next (pc := 4) (pc' := 5) rfl rfl ?_
    refine jx_next (pc := 5) (pc' := 7) rfl rfl ?_
    refine jx_icge (pc := 7) rfl (fun hc3 => ?_) (fun hc3 => ?_)
    · replace K := (if_pos hc3).symm.trans K
      refine jx_next (pc := 10) (pc' := 11) rfl rfl ?_
      refine jx_next (pc := 11) (pc' := 15) rfl rfl ?_
      refine jx_le (pl' := [some (.int v0), some (.int v1), some (.int v2), none]) (jle_v (jle_v (jle_v (jle_n jle_nil)))) ?_
      exact kWd_withLetter_j15 hT  hd K HQ
    · replace K := (if_neg hc3).symm.trans K
      refine jx_le (pl' := [some (.int v0), some (.int v1), some (.int v2), none]) (jle_v (jle_v (jle_v (jle_n jle_nil)))) ?_
      exact kWd_withLetter_j14 hT  hd K HQ
noncomputable def fRd_stepOverRun_l13_j117 (R : jR) (o : Nat) (v1 : Int32) (h : jH) : Option ((jH) ⊕ (jH)) :=
  some (.inl (jhI h o 2 ((h.1 o 2) + 1)))
theorem kRd_stepOverRun_l13_j117 {X : jX} {d : Nat} {R : jR} {Q : Option Value → jS → Prop} {o : Nat} {v1 : Int32} {h : jH} (hT : jTy R) (ho : jcl 176 o = 3) (hd : 1 ≤ (d + 1)) {z : (jH) ⊕ (jH)} (K : fRd_stepOverRun_l13_j117 R o v1 h = some z) (HL : ∀ s : jH, z = .inl s → jEx X (d + 1) jc_30 13 [some (.ref o), some (.int v1), none] [] (176, R, s) Q) (HE0 : ∀ x : jH, z = .inr x → jEx X (d + 1) jc_30 130 [none, none, none] [] (176, R, x) Q) :
    jEx X (d + 1) jc_30 117 [some (.ref o), some (.int v1), none] [] (176, R, h) Q := by
  unfold fRd_stepOverRun_l13_j117 at K
  refine jx_next (pc := 117) (pc' := 118) rfl rfl ?_
  refine jx_next (pc := 118) (pc' := 119) rfl rfl ?_
  refine jx_geti (pc := 119) rfl ho ?_
  refine jx_next (pc := 122) (pc' := 123) rfl rfl ?_
  refine jx_next (pc := 123) (pc' := 124) rfl rfl ?_
  refine jx_puti (pc := 124) rfl ho ?_
  refine jx_next (pc := 127) (pc' := 13) rfl rfl ?_
  obtain rfl := Option.some.inj K
  refine jx_le (pl' := [some (.ref o), some (.int v1), none]) (jle_v (jle_v (jle_n jle_nil))) ?_
  exact HL _ rfl
noncomputable def fRd_stepOverRun_l13_b (R : jR) (o : Nat) (v1 : Int32) (h : jH) : Option ((jH) ⊕ (jH)) :=
  (if (h.1 o 2) < (fTp_size R (R o 0) h) then
  (Option.bind (fTp_byteAt R (R o 0) (h.1 o 2) h) (fun (z2 : Int32) =>
  (if (fRd_sortOf z2) = v1 then
  (if v1 = 1 then
  (Option.bind (fTp_byteAt R (R o 0) (h.1 o 2) h) (fun (z5 : Int32) =>
  fRd_stepOverRun_l13_j117 R o v1 (jhI h o 4 (fWd_withLetter (h.1 o 4) ((h.1 o 2) - (h.1 o 1)) z5))))
  else
  (if ((h.1 o 2) - (h.1 o 1)) < 4 then
  (Option.bind (fTp_byteAt R (R o 0) (h.1 o 2) h) (fun (z7 : Int32) =>
  fRd_stepOverRun_l13_j117 R o v1 (jhI h o 4 (((10 * (h.1 o 4)) + z7) - 48))))
  else
  fRd_stepOverRun_l13_j117 R o v1 h))
  else
  some (.inr h))))
  else
  some (.inr h))
noncomputable def fRd_stepOverRun_l13 (R : jR) (o : Nat) (v1 : Int32) : jH → Option ((jH) ⊕ (jH)) :=
  fun (s : jH) => fRd_stepOverRun_l13_b R o v1 s
theorem kRd_stepOverRun_l13_b {X : jX} {d : Nat} {R : jR} {Q : Option Value → jS → Prop} {o : Nat} {v1 : Int32} {h : jH} (hT : jTy R) (ho : jcl 176 o = 3) (hd : 1 ≤ (d + 1)) {z : (jH) ⊕ (jH)} (K : fRd_stepOverRun_l13_b R o v1 h = some z) (HL : ∀ s : jH, z = .inl s → jEx X (d + 1) jc_30 13 [some (.ref o), some (.int v1), none] [] (176, R, s) Q) (HE0 : ∀ x : jH, z = .inr x → jEx X (d + 1) jc_30 130 [none, none, none] [] (176, R, x) Q) :
    jEx X (d + 1) jc_30 13 [some (.ref o), some (.int v1), none] [] (176, R, h) Q := by
  unfold fRd_stepOverRun_l13_b at K
  refine jx_next (pc := 13) (pc' := 14) rfl rfl ?_
  refine jx_geti (pc := 14) rfl ho ?_
  refine jx_next (pc := 17) (pc' := 18) rfl rfl ?_
  refine jx_getr (pc := 18) rfl ho ?_
  refine jx_callv (pc := 21) (o := (R o 0)) (rest := [.int (h.1 o 2)]) rfl ⟨by decide, by decide⟩ rfl (jtR hT ho (k := 0) (c := 2) rfl) (Nat.le_of_ble_eq_true rfl) ?_
  refine kTp_size hT (jtR hT ho (k := 0) (c := 2) rfl) (by omega) rfl ?_
  refine jx_icge (pc := 24) rfl (fun hc1 => ?_) (fun hc1 => ?_)
  · replace K := (if_pos hc1).symm.trans K
    refine jx_next (pc := 27) (pc' := 28) rfl rfl ?_
    refine jx_getr (pc := 28) rfl ho ?_
    refine jx_next (pc := 31) (pc' := 32) rfl rfl ?_
    refine jx_geti (pc := 32) rfl ho ?_
    refine jx_callv (pc := 35) (o := (R o 0)) (rest := []) rfl ⟨by decide, by decide⟩ rfl (jtR hT ho (k := 0) (c := 2) rfl) (Nat.le_of_ble_eq_true rfl) ?_
    obtain ⟨z2, hz_z2, K⟩ := Option.bind_eq_some_iff.mp K
    refine kTp_byteAt hT (jtR hT ho (k := 0) (c := 2) rfl) (by omega) hz_z2 ?_
    refine jx_calls (pc := 38) rfl (Nat.le_of_ble_eq_true rfl) (Nat.le_of_ble_eq_true rfl) ?_
    refine kRd_sortOf  (by omega) rfl ?_
    refine jx_next (pc := 41) (pc' := 42) rfl rfl ?_
    refine jx_icne (pc := 42) rfl (fun hc3 => ?_) (fun hc3 => ?_)
    · replace K := (if_pos hc3).symm.trans K
      refine jx_next (pc := 45) (pc' := 46) rfl rfl ?_
      refine jx_geti (pc := 46) rfl ho ?_
      refine jx_next (pc := 49) (pc' := 50) rfl rfl ?_
      refine jx_geti (pc := 50) rfl ho ?_
      refine jx_next (pc := 53) (pc' := 54) rfl rfl ?_
      refine jx_stin (pc := 54) (p2 := [some (.ref o), some (.int v1), some (.int ((h.1 o 2) - (h.1 o 1)))]) rfl (jlt rfl) rfl ?_
      refine jx_next (pc := 55) (pc' := 56) rfl rfl ?_
      refine jx_next (pc := 56) (pc' := 57) rfl rfl ?_
      refine jx_icne (pc := 57) rfl (fun hc4 => ?_) (fun hc4 => ?_)
      · replace K := (if_pos hc4).symm.trans K
        refine jx_next (pc := 60) (pc' := 61) rfl rfl ?_
        refine jx_next (pc := 61) (pc' := 62) rfl rfl ?_
        refine jx_geti (pc := 62) rfl ho ?_
        refine jx_next (pc := 65) (pc' := 66) rfl rfl ?_
        refine jx_next (pc := 66) (pc' := 67) rfl rfl ?_
        refine jx_getr (pc := 67) rfl ho ?_
        refine jx_next (pc := 70) (pc' := 71) rfl rfl ?_
        refine jx_geti (pc := 71) rfl ho ?_
        refine jx_callv (pc := 74) (o := (R o 0)) (rest := [.int ((h.1 o 2) - (h.1 o 1)), .int (h.1 o 4), .ref o]) rfl ⟨by decide, by decide⟩ rfl (jtR hT ho (k := 0) (c := 2) rfl) (Nat.le_of_ble_eq_true rfl) ?_
        obtain ⟨z5, hz_z5, K⟩ := Option.bind_eq_some_iff.mp K
        refine kTp_byteAt hT (jtR hT ho (k := 0) (c := 2) rfl) (by omega) hz_z5 ?_
        refine jx_calls (pc := 77) rfl (Nat.le_of_ble_eq_true rfl) (Nat.le_of_ble_eq_true rfl) ?_
        refine kWd_withLetter  (by omega) rfl ?_
        refine jx_puti (pc := 80) rfl ho ?_
        refine jx_next (pc := 83) (pc' := 117) rfl rfl ?_
        refine jx_le (pl' := [some (.ref o), some (.int v1), none]) (jle_v (jle_v (jle_n jle_nil))) ?_
        exact kRd_stepOverRun_l13_j117 hT ho hd K HL HE0
      · replace K := (if_neg hc4).symm.trans K
        refine jx_next (pc := 86) (pc' := 87) rfl rfl ?_
        refine jx_next (pc := 87) (pc' := 88) rfl rfl ?_
        refine jx_icge (pc := 88) rfl (fun hc6 => ?_) (fun hc6 => ?_)
        · replace K := (if_pos hc6).symm.trans K
          refine jx_next (pc := 91) (pc' := 92) rfl rfl ?_
          refine jx_next (pc := 92) (pc' := 94) rfl rfl ?_
          refine jx_next (pc := 94) (pc' := 95) rfl rfl ?_
          refine jx_geti (pc := 95) rfl ho ?_
          refine jx_next (pc := 98) (pc' := 99) rfl rfl ?_
          refine jx_next (pc := 99) (pc' := 100) rfl rfl ?_
          refine jx_getr (pc := 100) rfl ho ?_
          refine jx_next (pc := 103) (pc' := 104) rfl rfl ?_
          refine jx_geti (pc := 104) rfl ho ?_
          refine jx_callv (pc := 107) (o := (R o 0)) (rest := [.int (10 * (h.1 o 4)), .ref o]) rfl ⟨by decide, by decide⟩ rfl (jtR hT ho (k := 0) (c := 2) rfl) (Nat.le_of_ble_eq_true rfl) ?_
          obtain ⟨z7, hz_z7, K⟩ := Option.bind_eq_some_iff.mp K
          refine kTp_byteAt hT (jtR hT ho (k := 0) (c := 2) rfl) (by omega) hz_z7 ?_
          refine jx_next (pc := 110) (pc' := 111) rfl rfl ?_
          refine jx_next (pc := 111) (pc' := 113) rfl rfl ?_
          refine jx_next (pc := 113) (pc' := 114) rfl rfl ?_
          refine jx_puti (pc := 114) rfl ho ?_
          refine jx_le (pl' := [some (.ref o), some (.int v1), none]) (jle_v (jle_v (jle_n jle_nil))) ?_
          exact kRd_stepOverRun_l13_j117 hT ho hd K HL HE0
        · replace K := (if_neg hc6).symm.trans K
          refine jx_le (pl' := [some (.ref o), some (.int v1), none]) (jle_v (jle_v (jle_n jle_nil))) ?_
          exact kRd_stepOverRun_l13_j117 hT ho hd K HL HE0
    · replace K := (if_neg hc3).symm.trans K
      obtain rfl := Option.some.inj K
      refine jx_le (pl' := [none, none, none]) (jle_n (jle_n (jle_n jle_nil))) ?_
      exact HE0 _ rfl
  · replace K := (if_neg hc1).symm.trans K
    obtain rfl := Option.some.inj K
    refine jx_le (pl' := [none, none, none]) (jle_n (jle_n (jle_n jle_nil))) ?_
    exact HE0 _ rfl
theorem kRd_stepOverRun_l13_w {X : jX} {d : Nat} {R : jR} {Q : Option Value → jS → Prop} {o : Nat} {v1 : Int32} (hT : jTy R) (ho : jcl 176 o = 3) (hd : 1 ≤ (d + 1)) {s : jH} {x : jH} (K : jlim (fRd_stepOverRun_l13 R o v1) s = some x) (HE : jEx X (d + 1) jc_30 130 [none, none, none] [] (176, R, x) Q) :
    jEx X (d + 1) jc_30 13 [some (.ref o), some (.int v1), none] [] (176, R, s) Q := by
  refine jlim_ok (G := fun s : jH => jEx X (d + 1) jc_30 13 [some (.ref o), some (.int v1), none] [] (176, R, s) Q) (GX := fun x : jH => jEx X (d + 1) jc_30 130 [none, none, none] [] (176, R, x) Q) (fun s z hz HL HE => ?_) K HE
  exact kRd_stepOverRun_l13_b hT ho hd hz HL HE
/-- AndGuest$Reader.stepOverRun(I)V -/
noncomputable def fRd_stepOverRun (R : jR) (o : Nat) (v1 : Int32) (h : jH) : Option jH :=
  (Option.bind (jlim (fRd_stepOverRun_l13 R o v1) (jhI (jhI h o 4 0) o 2 ((jhI h o 4 0).1 o 1))) (fun (x8 : jH) =>
  some x8))
theorem kRd_stepOverRun {X : jX} {d : Nat} {R : jR} {Q : Option Value → jS → Prop} {o : Nat} {v1 : Int32} {h : jH} (hT : jTy R) (ho : jcl 176 o = 3) (hd : 1 ≤ d) {z : jH} (K : fRd_stepOverRun R o v1 h = some z) (HQ : Q none (176, R, z)) :
    jCa X d 30 [.ref o, .int v1] (176, R, h) Q := by
  obtain ⟨d, rfl⟩ : ∃ d9, d = d9 + 1 := ⟨d - 1, by omega⟩
  unfold fRd_stepOverRun at K
  refine jCa_of (es := jc_30) (pl := [some (.ref o), some (.int v1), none]) (M := jm_30) rfl rfl rfl rfl ?_
  refine jx_next (pc := 0) (pc' := 1) rfl rfl ?_
  refine jx_next (pc := 1) (pc' := 2) rfl rfl ?_
  refine jx_puti (pc := 2) rfl ho ?_
  refine jx_next (pc := 5) (pc' := 6) rfl rfl ?_
  refine jx_next (pc := 6) (pc' := 7) rfl rfl ?_
  refine jx_geti (pc := 7) rfl ho ?_
  refine jx_puti (pc := 10) rfl ho ?_
  refine jx_le (pl' := [some (.ref o), some (.int v1), none]) (jle_v (jle_v (jle_n jle_nil))) ?_
  obtain ⟨x8, hz_x8, K⟩ := Option.bind_eq_some_iff.mp K
  refine kRd_stepOverRun_l13_w hT ho hd hz_x8 ?_
  obtain rfl := Option.some.inj K
  exact jx_ret (pc := 130) rfl rfl HQ
/-- java/lang/Math.min(II)I -/
noncomputable def fMt_min (v0 : Int32) (v1 : Int32) : Int32 :=
  (if v1 < v0 then
  (v1 : Int32)
  else
  (v0 : Int32))
theorem kMt_min {X : jX} {d : Nat} {R : jR} {Q : Option Value → jS → Prop} {v0 : Int32} {v1 : Int32} {h : jH}  (hd : 0 ≤ d) {z : Int32} (K : fMt_min v0 v1 = z) (HQ : Q (some (.int z)) (176, R, h)) :
    jCa X d 32 [.int v0, .int v1] (176, R, h) Q := by
  unfold fMt_min at K
  refine jCa_of (es := jc_32) (pl := [some (.int v0), some (.int v1)]) (M := jm_32) rfl rfl rfl rfl ?_
  refine jx_next (pc := 0) (pc' := 1) rfl rfl ?_
  refine jx_next (pc := 1) (pc' := 2) rfl rfl ?_
  refine jx_icgt (pc := 2) rfl (fun hc1 => ?_) (fun hc1 => ?_)
  · replace K := (if_pos hc1).symm.trans K
    refine jx_next (pc := 9) (pc' := 10) rfl rfl ?_
    obtain rfl := K
    exact jx_iret (pc := 10) rfl HQ
  · replace K := (if_neg hc1).symm.trans K
    refine jx_next (pc := 5) (pc' := 6) rfl rfl ?_
    refine jx_next (pc := 6) (pc' := 10) rfl rfl ?_
    obtain rfl := K
    exact jx_iret (pc := 10) rfl HQ
noncomputable def fRd_step_l32_b (R : jR) (o : Nat) (v1 : Int32) (v2 : Int32) (h : jH) : Option ((jH) ⊕ (jH)) :=
  (if (h.1 o 1) < (fTp_size R (R o 0) h) then
  (Option.bind (fTp_byteAt R (R o 0) (h.1 o 1) h) (fun (z3 : Int32) =>
  (if (fRd_isBlank z3) = 0 then
  some (.inr h)
  else
  some (.inl (jhI h o 1 ((h.1 o 1) + 1))))))
  else
  some (.inr h))
noncomputable def fRd_step_l32 (R : jR) (o : Nat) (v1 : Int32) (v2 : Int32) : jH → Option ((jH) ⊕ (jH)) :=
  fun (s : jH) => fRd_step_l32_b R o v1 v2 s
theorem kRd_step_l32_b {X : jX} {d : Nat} {R : jR} {Q : Option Value → jS → Prop} {o : Nat} {v1 : Int32} {v2 : Int32} {h : jH} (hT : jTy R) (ho : jcl 176 o = 3) (hd : 2 ≤ (d + 1)) {z : (jH) ⊕ (jH)} (K : fRd_step_l32_b R o v1 v2 h = some z) (HL : ∀ s : jH, z = .inl s → jEx X (d + 1) jc_26 32 [some (.ref o), some (.int v1), some (.int v2), none, none] [] (176, R, s) Q) (HE0 : ∀ x : jH, z = .inr x → jEx X (d + 1) jc_26 76 [some (.ref o), some (.int v1), some (.int v2), none, none] [] (176, R, x) Q) :
    jEx X (d + 1) jc_26 32 [some (.ref o), some (.int v1), some (.int v2), none, none] [] (176, R, h) Q := by
  unfold fRd_step_l32_b at K
  refine jx_next (pc := 32) (pc' := 33) rfl rfl ?_
  refine jx_geti (pc := 33) rfl ho ?_
  refine jx_next (pc := 36) (pc' := 37) rfl rfl ?_
  refine jx_getr (pc := 37) rfl ho ?_
  refine jx_callv (pc := 40) (o := (R o 0)) (rest := [.int (h.1 o 1)]) rfl ⟨by decide, by decide⟩ rfl (jtR hT ho (k := 0) (c := 2) rfl) (Nat.le_of_ble_eq_true rfl) ?_
  refine kTp_size hT (jtR hT ho (k := 0) (c := 2) rfl) (by omega) rfl ?_
  refine jx_icge (pc := 43) rfl (fun hc2 => ?_) (fun hc2 => ?_)
  · replace K := (if_pos hc2).symm.trans K
    refine jx_next (pc := 46) (pc' := 47) rfl rfl ?_
    refine jx_getr (pc := 47) rfl ho ?_
    refine jx_next (pc := 50) (pc' := 51) rfl rfl ?_
    refine jx_geti (pc := 51) rfl ho ?_
    refine jx_callv (pc := 54) (o := (R o 0)) (rest := []) rfl ⟨by decide, by decide⟩ rfl (jtR hT ho (k := 0) (c := 2) rfl) (Nat.le_of_ble_eq_true rfl) ?_
    obtain ⟨z3, hz_z3, K⟩ := Option.bind_eq_some_iff.mp K
    refine kTp_byteAt hT (jtR hT ho (k := 0) (c := 2) rfl) (by omega) hz_z3 ?_
    refine jx_calls (pc := 57) rfl (Nat.le_of_ble_eq_true rfl) (Nat.le_of_ble_eq_true rfl) ?_
    refine kRd_isBlank  (by omega) rfl ?_
    refine jx_ifeq (pc := 60) rfl (fun hc4 => ?_) (fun hc4 => ?_)
    · replace K := (if_pos hc4).symm.trans K
      obtain rfl := Option.some.inj K
      refine jx_le (pl' := [some (.ref o), some (.int v1), some (.int v2), none, none]) (jle_v (jle_v (jle_v (jle_n (jle_n jle_nil))))) ?_
      exact HE0 _ rfl
    · replace K := (if_neg hc4).symm.trans K
      refine jx_next (pc := 63) (pc' := 64) rfl rfl ?_
      refine jx_next (pc := 64) (pc' := 65) rfl rfl ?_
      refine jx_geti (pc := 65) rfl ho ?_
      refine jx_next (pc := 68) (pc' := 69) rfl rfl ?_
      refine jx_next (pc := 69) (pc' := 70) rfl rfl ?_
      refine jx_puti (pc := 70) rfl ho ?_
      refine jx_next (pc := 73) (pc' := 32) rfl rfl ?_
      obtain rfl := Option.some.inj K
      refine jx_le (pl' := [some (.ref o), some (.int v1), some (.int v2), none, none]) (jle_v (jle_v (jle_v (jle_n (jle_n jle_nil))))) ?_
      exact HL _ rfl
  · replace K := (if_neg hc2).symm.trans K
    obtain rfl := Option.some.inj K
    refine jx_le (pl' := [some (.ref o), some (.int v1), some (.int v2), none, none]) (jle_v (jle_v (jle_v (jle_n (jle_n jle_nil))))) ?_
    exact HE0 _ rfl
theorem kRd_step_l32_w {X : jX} {d : Nat} {R : jR} {Q : Option Value → jS → Prop} {o : Nat} {v1 : Int32} {v2 : Int32} (hT : jTy R) (ho : jcl 176 o = 3) (hd : 2 ≤ (d + 1)) {s : jH} {x : jH} (K : jlim (fRd_step_l32 R o v1 v2) s = some x) (HE : jEx X (d + 1) jc_26 76 [some (.ref o), some (.int v1), some (.int v2), none, none] [] (176, R, x) Q) :
    jEx X (d + 1) jc_26 32 [some (.ref o), some (.int v1), some (.int v2), none, none] [] (176, R, s) Q := by
  refine jlim_ok (G := fun s : jH => jEx X (d + 1) jc_26 32 [some (.ref o), some (.int v1), some (.int v2), none, none] [] (176, R, s) Q) (GX := fun x : jH => jEx X (d + 1) jc_26 76 [some (.ref o), some (.int v1), some (.int v2), none, none] [] (176, R, x) Q) (fun s z hz HL HE => ?_) K HE
  exact kRd_step_l32_b hT ho hd hz HL HE
noncomputable def fRd_step_j131 (R : jR) (o : Nat) (v3 : Int32) (v4 : Int32) (s0 : Nat) (s1 : Int32) (h : jH) : Option jH :=
  (if v4 = 0 then
  (Option.bind (fTp_byteAt R (R o 0) ((jhI h s0 3 s1).1 o 1) (jhI h s0 3 s1)) (fun (z10 : Int32) =>
  some (jhI (jhI (jhI h s0 3 s1) o 4 z10) o 2 (fMt_min (((jhI (jhI h s0 3 s1) o 4 z10).1 o 1) + 1) (fTp_size R (R o 0) (jhI (jhI h s0 3 s1) o 4 z10))))))
  else
  (Option.bind (fRd_stepOverRun R o v3 (jhI h s0 3 s1)) (fun (z11 : jH) =>
  some z11)))
theorem kRd_step_j131 {X : jX} {d : Nat} {R : jR} {Q : Option Value → jS → Prop} {o : Nat} {v3 : Int32} {v4 : Int32} {s0 : Nat} {s1 : Int32} {h : jH} (hT : jTy R) (ho : jcl 176 o = 3) (hs0 : jcl 176 s0 = 3) (hd : 2 ≤ (d + 1)) {z : jH} (K : fRd_step_j131 R o v3 v4 s0 s1 h = some z) (HQ : Q none (176, R, z)) :
    jEx X (d + 1) jc_26 131 [some (.ref o), none, none, some (.int v3), some (.int v4)] [.int s1, .ref s0] (176, R, h) Q := by
  unfold fRd_step_j131 at K
  refine jx_puti (pc := 131) rfl hs0 ?_
  refine jx_next (pc := 134) (pc' := 136) rfl rfl ?_
  refine jx_ifeq (pc := 136) rfl (fun hc9 => ?_) (fun hc9 => ?_)
  · replace K := (if_pos hc9).symm.trans K
    refine jx_next (pc := 147) (pc' := 148) rfl rfl ?_
    refine jx_next (pc := 148) (pc' := 149) rfl rfl ?_
    refine jx_getr (pc := 149) rfl ho ?_
    refine jx_next (pc := 152) (pc' := 153) rfl rfl ?_
    refine jx_geti (pc := 153) rfl ho ?_
    refine jx_callv (pc := 156) (o := (R o 0)) (rest := [.ref o]) rfl ⟨by decide, by decide⟩ rfl (jtR hT ho (k := 0) (c := 2) rfl) (Nat.le_of_ble_eq_true rfl) ?_
    obtain ⟨z10, hz_z10, K⟩ := Option.bind_eq_some_iff.mp K
    refine kTp_byteAt hT (jtR hT ho (k := 0) (c := 2) rfl) (by omega) hz_z10 ?_
    refine jx_puti (pc := 159) rfl ho ?_
    refine jx_next (pc := 162) (pc' := 163) rfl rfl ?_
    refine jx_next (pc := 163) (pc' := 164) rfl rfl ?_
    refine jx_geti (pc := 164) rfl ho ?_
    refine jx_next (pc := 167) (pc' := 168) rfl rfl ?_
    refine jx_next (pc := 168) (pc' := 169) rfl rfl ?_
    refine jx_next (pc := 169) (pc' := 170) rfl rfl ?_
    refine jx_getr (pc := 170) rfl ho ?_
    refine jx_callv (pc := 173) (o := (R o 0)) (rest := [.int (((jhI (jhI h s0 3 s1) o 4 z10).1 o 1) + 1), .ref o]) rfl ⟨by decide, by decide⟩ rfl (jtR hT ho (k := 0) (c := 2) rfl) (Nat.le_of_ble_eq_true rfl) ?_
    refine kTp_size hT (jtR hT ho (k := 0) (c := 2) rfl) (by omega) rfl ?_
    refine jx_calls (pc := 176) rfl (Nat.le_of_ble_eq_true rfl) (Nat.le_of_ble_eq_true rfl) ?_
    refine kMt_min  (by omega) rfl ?_
    refine jx_puti (pc := 179) rfl ho ?_
    obtain rfl := Option.some.inj K
    exact jx_ret (pc := 182) rfl rfl HQ
  · replace K := (if_neg hc9).symm.trans K
    refine jx_next (pc := 139) (pc' := 140) rfl rfl ?_
    refine jx_next (pc := 140) (pc' := 141) rfl rfl ?_
    refine jx_callv (pc := 141) (o := o) (rest := []) rfl ⟨by decide, by decide⟩ rfl ho (Nat.le_of_ble_eq_true rfl) ?_
    obtain ⟨z11, hz_z11, K⟩ := Option.bind_eq_some_iff.mp K
    refine kRd_stepOverRun hT ho (by omega) hz_z11 ?_
    refine jx_next (pc := 144) (pc' := 182) rfl rfl ?_
    obtain rfl := Option.some.inj K
    exact jx_ret (pc := 182) rfl rfl HQ
noncomputable def fRd_step_j130 (R : jR) (o : Nat) (v3 : Int32) (v4 : Int32) (s0 : Nat) (h : jH) : Option jH :=
  fRd_step_j131 R o v3 v4 s0 v3 h
theorem kRd_step_j130 {X : jX} {d : Nat} {R : jR} {Q : Option Value → jS → Prop} {o : Nat} {v3 : Int32} {v4 : Int32} {s0 : Nat} {h : jH} (hT : jTy R) (ho : jcl 176 o = 3) (hs0 : jcl 176 s0 = 3) (hd : 2 ≤ (d + 1)) {z : jH} (K : fRd_step_j130 R o v3 v4 s0 h = some z) (HQ : Q none (176, R, z)) :
    jEx X (d + 1) jc_26 130 [some (.ref o), none, none, some (.int v3), some (.int v4)] [.ref s0] (176, R, h) Q := by
  unfold fRd_step_j130 at K
  refine jx_next (pc := 130) (pc' := 131) rfl rfl ?_
  refine jx_le (pl' := [some (.ref o), none, none, some (.int v3), some (.int v4)]) (jle_v (jle_n (jle_n (jle_v (jle_v jle_nil))))) ?_
  exact kRd_step_j131 hT ho hs0 hd K HQ
noncomputable def fRd_step_j106 (R : jR) (o : Nat) (v1 : Int32) (v2 : Int32) (v3 : Int32) (s0 : Int32) (h : jH) : Option jH :=
  (if v1 = 0 then
  fRd_step_j130 R o v3 s0 o h
  else
  (if s0 = 0 then
  fRd_step_j130 R o v3 s0 o h
  else
  (if (h.1 o 1) = v2 then
  fRd_step_j131 R o v3 s0 o 4 h
  else
  fRd_step_j130 R o v3 s0 o h)))
theorem kRd_step_j106 {X : jX} {d : Nat} {R : jR} {Q : Option Value → jS → Prop} {o : Nat} {v1 : Int32} {v2 : Int32} {v3 : Int32} {s0 : Int32} {h : jH} (hT : jTy R) (ho : jcl 176 o = 3) (hd : 2 ≤ (d + 1)) {z : jH} (K : fRd_step_j106 R o v1 v2 v3 s0 h = some z) (HQ : Q none (176, R, z)) :
    jEx X (d + 1) jc_26 106 [some (.ref o), some (.int v1), some (.int v2), some (.int v3), none] [.int s0] (176, R, h) Q := by
  unfold fRd_step_j106 at K
  refine jx_sti (pc := 106) (p2 := [some (.ref o), some (.int v1), some (.int v2), some (.int v3), some (.int s0)]) rfl (jlt rfl) rfl ?_
  refine jx_next (pc := 108) (pc' := 109) rfl rfl ?_
  refine jx_next (pc := 109) (pc' := 110) rfl rfl ?_
  refine jx_ifeq (pc := 110) rfl (fun hc8 => ?_) (fun hc8 => ?_)
  · replace K := (if_pos hc8).symm.trans K
    refine jx_le (pl' := [some (.ref o), none, none, some (.int v3), some (.int s0)]) (jle_v (jle_n (jle_n (jle_v (jle_v jle_nil))))) ?_
    exact kRd_step_j130 hT ho ho hd K HQ
  · replace K := (if_neg hc8).symm.trans K
    refine jx_next (pc := 113) (pc' := 115) rfl rfl ?_
    refine jx_ifeq (pc := 115) rfl (fun hc12 => ?_) (fun hc12 => ?_)
    · replace K := (if_pos hc12).symm.trans K
      refine jx_le (pl' := [some (.ref o), none, none, some (.int v3), some (.int s0)]) (jle_v (jle_n (jle_n (jle_v (jle_v jle_nil))))) ?_
      exact kRd_step_j130 hT ho ho hd K HQ
    · replace K := (if_neg hc12).symm.trans K
      refine jx_next (pc := 118) (pc' := 119) rfl rfl ?_
      refine jx_geti (pc := 119) rfl ho ?_
      refine jx_next (pc := 122) (pc' := 123) rfl rfl ?_
      refine jx_icne (pc := 123) rfl (fun hc13 => ?_) (fun hc13 => ?_)
      · replace K := (if_pos hc13).symm.trans K
        refine jx_next (pc := 126) (pc' := 127) rfl rfl ?_
        refine jx_next (pc := 127) (pc' := 131) rfl rfl ?_
        refine jx_le (pl' := [some (.ref o), none, none, some (.int v3), some (.int s0)]) (jle_v (jle_n (jle_n (jle_v (jle_v jle_nil))))) ?_
        exact kRd_step_j131 hT ho ho hd K HQ
      · replace K := (if_neg hc13).symm.trans K
        refine jx_le (pl' := [some (.ref o), none, none, some (.int v3), some (.int s0)]) (jle_v (jle_n (jle_n (jle_v (jle_v jle_nil))))) ?_
        exact kRd_step_j130 hT ho ho hd K HQ
noncomputable def fRd_step_j101 (R : jR) (o : Nat) (v1 : Int32) (v2 : Int32) (v3 : Int32) (h : jH) : Option jH :=
  fRd_step_j106 R o v1 v2 v3 1 h
theorem kRd_step_j101 {X : jX} {d : Nat} {R : jR} {Q : Option Value → jS → Prop} {o : Nat} {v1 : Int32} {v2 : Int32} {v3 : Int32} {h : jH} (hT : jTy R) (ho : jcl 176 o = 3) (hd : 2 ≤ (d + 1)) {z : jH} (K : fRd_step_j101 R o v1 v2 v3 h = some z) (HQ : Q none (176, R, z)) :
    jEx X (d + 1) jc_26 101 [some (.ref o), some (.int v1), some (.int v2), some (.int v3), none] [] (176, R, h) Q := by
  unfold fRd_step_j101 at K
  refine jx_next (pc := 101) (pc' := 102) rfl rfl ?_
  refine jx_next (pc := 102) (pc' := 106) rfl rfl ?_
  refine jx_le (pl' := [some (.ref o), some (.int v1), some (.int v2), some (.int v3), none]) (jle_v (jle_v (jle_v (jle_v (jle_n jle_nil))))) ?_
  exact kRd_step_j106 hT ho hd K HQ
noncomputable def fRd_step_j21 (R : jR) (o : Nat) (s0 : Int32) (h : jH) : Option jH :=
  (Option.bind (jlim (fRd_step_l32 R o s0 (h.1 o 2)) (jhI h o 1 (h.1 o 2))) (fun (x5 : jH) =>
  (Option.bind (fTp_byteAt R (R o 0) (x5.1 o 1) x5) (fun (z6 : Int32) =>
  (if (fRd_sortOf z6) = 1 then
  fRd_step_j101 R o s0 (h.1 o 2) (fRd_sortOf z6) x5
  else
  (if (fRd_sortOf z6) = 2 then
  fRd_step_j101 R o s0 (h.1 o 2) (fRd_sortOf z6) x5
  else
  fRd_step_j106 R o s0 (h.1 o 2) (fRd_sortOf z6) 0 x5))))))
theorem kRd_step_j21 {X : jX} {d : Nat} {R : jR} {Q : Option Value → jS → Prop} {o : Nat} {s0 : Int32} {h : jH} (hT : jTy R) (ho : jcl 176 o = 3) (hd : 2 ≤ (d + 1)) {z : jH} (K : fRd_step_j21 R o s0 h = some z) (HQ : Q none (176, R, z)) :
    jEx X (d + 1) jc_26 21 [some (.ref o), none, none, none, none] [.int s0] (176, R, h) Q := by
  unfold fRd_step_j21 at K
  refine jx_stin (pc := 21) (p2 := [some (.ref o), some (.int s0), none, none, none]) rfl (jlt rfl) rfl ?_
  refine jx_next (pc := 22) (pc' := 23) rfl rfl ?_
  refine jx_geti (pc := 23) rfl ho ?_
  refine jx_stin (pc := 26) (p2 := [some (.ref o), some (.int s0), some (.int (h.1 o 2)), none, none]) rfl (jlt rfl) rfl ?_
  refine jx_next (pc := 27) (pc' := 28) rfl rfl ?_
  refine jx_next (pc := 28) (pc' := 29) rfl rfl ?_
  refine jx_puti (pc := 29) rfl ho ?_
  refine jx_le (pl' := [some (.ref o), some (.int s0), some (.int (h.1 o 2)), none, none]) (jle_v (jle_v (jle_v (jle_n (jle_n jle_nil))))) ?_
  obtain ⟨x5, hz_x5, K⟩ := Option.bind_eq_some_iff.mp K
  refine kRd_step_l32_w hT ho hd hz_x5 ?_
  refine jx_next (pc := 76) (pc' := 77) rfl rfl ?_
  refine jx_getr (pc := 77) rfl ho ?_
  refine jx_next (pc := 80) (pc' := 81) rfl rfl ?_
  refine jx_geti (pc := 81) rfl ho ?_
  refine jx_callv (pc := 84) (o := (R o 0)) (rest := []) rfl ⟨by decide, by decide⟩ rfl (jtR hT ho (k := 0) (c := 2) rfl) (Nat.le_of_ble_eq_true rfl) ?_
  obtain ⟨z6, hz_z6, K⟩ := Option.bind_eq_some_iff.mp K
  refine kTp_byteAt hT (jtR hT ho (k := 0) (c := 2) rfl) (by omega) hz_z6 ?_
  refine jx_calls (pc := 87) rfl (Nat.le_of_ble_eq_true rfl) (Nat.le_of_ble_eq_true rfl) ?_
  refine kRd_sortOf  (by omega) rfl ?_
  refine jx_stin (pc := 90) (p2 := [some (.ref o), some (.int s0), some (.int (h.1 o 2)), some (.int (fRd_sortOf z6)), none]) rfl (jlt rfl) rfl ?_
  refine jx_next (pc := 91) (pc' := 92) rfl rfl ?_
  refine jx_next (pc := 92) (pc' := 93) rfl rfl ?_
  refine jx_iceq (pc := 93) rfl (fun hc7 => ?_) (fun hc7 => ?_)
  · replace K := (if_pos hc7).symm.trans K
    refine jx_le (pl' := [some (.ref o), some (.int s0), some (.int (h.1 o 2)), some (.int (fRd_sortOf z6)), none]) (jle_v (jle_v (jle_v (jle_v (jle_n jle_nil))))) ?_
    exact kRd_step_j101 hT ho hd K HQ
  · replace K := (if_neg hc7).symm.trans K
    refine jx_next (pc := 96) (pc' := 97) rfl rfl ?_
    refine jx_next (pc := 97) (pc' := 98) rfl rfl ?_
    refine jx_icne (pc := 98) rfl (fun hc14 => ?_) (fun hc14 => ?_)
    · replace K := (if_pos hc14).symm.trans K
      refine jx_le (pl' := [some (.ref o), some (.int s0), some (.int (h.1 o 2)), some (.int (fRd_sortOf z6)), none]) (jle_v (jle_v (jle_v (jle_v (jle_n jle_nil))))) ?_
      exact kRd_step_j101 hT ho hd K HQ
    · replace K := (if_neg hc14).symm.trans K
      refine jx_next (pc := 105) (pc' := 106) rfl rfl ?_
      refine jx_le (pl' := [some (.ref o), some (.int s0), some (.int (h.1 o 2)), some (.int (fRd_sortOf z6)), none]) (jle_v (jle_v (jle_v (jle_v (jle_n jle_nil))))) ?_
      exact kRd_step_j106 hT ho hd K HQ
noncomputable def fRd_step_j16 (R : jR) (o : Nat) (h : jH) : Option jH :=
  fRd_step_j21 R o 1 h
theorem kRd_step_j16 {X : jX} {d : Nat} {R : jR} {Q : Option Value → jS → Prop} {o : Nat} {h : jH} (hT : jTy R) (ho : jcl 176 o = 3) (hd : 2 ≤ (d + 1)) {z : jH} (K : fRd_step_j16 R o h = some z) (HQ : Q none (176, R, z)) :
    jEx X (d + 1) jc_26 16 [some (.ref o), none, none, none, none] [] (176, R, h) Q := by
  unfold fRd_step_j16 at K
  refine jx_next (pc := 16) (pc' := 17) rfl rfl ?_
  refine jx_next (pc := 17) (pc' := 21) rfl rfl ?_
  refine jx_le (pl' := [some (.ref o), none, none, none, none]) (jle_v (jle_n (jle_n (jle_n (jle_n jle_nil))))) ?_
  exact kRd_step_j21 hT ho hd K HQ
/-- AndGuest$Reader.step()V -/
noncomputable def fRd_step (R : jR) (o : Nat) (h : jH) : Option jH :=
  (if (h.1 o 3) = 1 then
  fRd_step_j16 R o h
  else
  (if (h.1 o 3) = 2 then
  fRd_step_j16 R o h
  else
  fRd_step_j21 R o 0 h))
theorem kRd_step {X : jX} {d : Nat} {R : jR} {Q : Option Value → jS → Prop} {o : Nat} {h : jH} (hT : jTy R) (ho : jcl 176 o = 3) (hd : 2 ≤ d) {z : jH} (K : fRd_step R o h = some z) (HQ : Q none (176, R, z)) :
    jCa X d 26 [.ref o] (176, R, h) Q := by
  obtain ⟨d, rfl⟩ : ∃ d9, d = d9 + 1 := ⟨d - 1, by omega⟩
  unfold fRd_step at K
  refine jCa_of (es := jc_26) (pl := [some (.ref o), none, none, none, none]) (M := jm_26) rfl rfl rfl rfl ?_
  refine jx_next (pc := 0) (pc' := 1) rfl rfl ?_
  refine jx_geti (pc := 1) rfl ho ?_
  refine jx_next (pc := 4) (pc' := 5) rfl rfl ?_
  refine jx_iceq (pc := 5) rfl (fun hc1 => ?_) (fun hc1 => ?_)
  · replace K := (if_pos hc1).symm.trans K
    refine jx_le (pl' := [some (.ref o), none, none, none, none]) (jle_v (jle_n (jle_n (jle_n (jle_n jle_nil))))) ?_
    exact kRd_step_j16 hT ho hd K HQ
  · replace K := (if_neg hc1).symm.trans K
    refine jx_next (pc := 8) (pc' := 9) rfl rfl ?_
    refine jx_geti (pc := 9) rfl ho ?_
    refine jx_next (pc := 12) (pc' := 13) rfl rfl ?_
    refine jx_icne (pc := 13) rfl (fun hc15 => ?_) (fun hc15 => ?_)
    · replace K := (if_pos hc15).symm.trans K
      refine jx_le (pl' := [some (.ref o), none, none, none, none]) (jle_v (jle_n (jle_n (jle_n (jle_n jle_nil))))) ?_
      exact kRd_step_j16 hT ho hd K HQ
    · replace K := (if_neg hc15).symm.trans K
      refine jx_next (pc := 20) (pc' := 21) rfl rfl ?_
      refine jx_le (pl' := [some (.ref o), none, none, none, none]) (jle_v (jle_n (jle_n (jle_n (jle_n jle_nil))))) ?_
      exact kRd_step_j21 hT ho hd K HQ
/-- AndGuest$Reader.begin()V -/
noncomputable def fRd_begin (R : jR) (o : Nat) (h : jH) : Option jH :=
  (Option.bind (fRd_step R o (jhI (jhI (jhI (jhI h o 2 0) o 5 0) o 6 (-1)) o 3 3)) (fun (z1 : jH) =>
  some z1))
theorem kRd_begin {X : jX} {d : Nat} {R : jR} {Q : Option Value → jS → Prop} {o : Nat} {h : jH} (hT : jTy R) (ho : jcl 176 o = 3) (hd : 3 ≤ d) {z : jH} (K : fRd_begin R o h = some z) (HQ : Q none (176, R, z)) :
    jCa X d 25 [.ref o] (176, R, h) Q := by
  obtain ⟨d, rfl⟩ : ∃ d9, d = d9 + 1 := ⟨d - 1, by omega⟩
  unfold fRd_begin at K
  refine jCa_of (es := jc_25) (pl := [some (.ref o)]) (M := jm_25) rfl rfl rfl rfl ?_
  refine jx_next (pc := 0) (pc' := 1) rfl rfl ?_
  refine jx_next (pc := 1) (pc' := 2) rfl rfl ?_
  refine jx_puti (pc := 2) rfl ho ?_
  refine jx_next (pc := 5) (pc' := 6) rfl rfl ?_
  refine jx_next (pc := 6) (pc' := 7) rfl rfl ?_
  refine jx_puti (pc := 7) rfl ho ?_
  refine jx_next (pc := 10) (pc' := 11) rfl rfl ?_
  refine jx_next (pc := 11) (pc' := 12) rfl rfl ?_
  refine jx_puti (pc := 12) rfl ho ?_
  refine jx_next (pc := 15) (pc' := 16) rfl rfl ?_
  refine jx_next (pc := 16) (pc' := 17) rfl rfl ?_
  refine jx_puti (pc := 17) rfl ho ?_
  refine jx_next (pc := 20) (pc' := 21) rfl rfl ?_
  refine jx_callv (pc := 21) (o := o) (rest := []) rfl ⟨by decide, by decide⟩ rfl ho (Nat.le_of_ble_eq_true rfl) ?_
  obtain ⟨z1, hz_z1, K⟩ := Option.bind_eq_some_iff.mp K
  refine kRd_step hT ho (by omega) hz_z1 ?_
  obtain rfl := Option.some.inj K
  exact jx_ret (pc := 24) rfl rfl HQ
/-- AndGuest$Reader.standsWord(LAndGuest$Word;)Z -/
noncomputable def fRd_standsWord (R : jR) (o : Nat) (v1 : Nat) (h : jH) : Int32 :=
  (if (h.1 o 3) = 1 then
  (if (h.1 o 4) = (jwc v1 0) then
  (1 : Int32)
  else
  (0 : Int32))
  else
  (0 : Int32))
theorem kRd_standsWord {X : jX} {d : Nat} {R : jR} {Q : Option Value → jS → Prop} {o : Nat} {v1 : Nat} {h : jH} (hT : jTy R) (ho : jcl 176 o = 3) (hv1 : jcl 176 v1 = 13) (hd : 0 ≤ d) {z : Int32} (K : fRd_standsWord R o v1 h = z) (HQ : Q (some (.int z)) (176, R, h)) :
    jCa X d 36 [.ref o, .ref v1] (176, R, h) Q := by
  unfold fRd_standsWord at K
  refine jCa_of (es := jc_36) (pl := [some (.ref o), some (.ref v1)]) (M := jm_36) rfl rfl rfl rfl ?_
  refine jx_next (pc := 0) (pc' := 1) rfl rfl ?_
  refine jx_geti (pc := 1) rfl ho ?_
  refine jx_next (pc := 4) (pc' := 5) rfl rfl ?_
  refine jx_icne (pc := 5) rfl (fun hc1 => ?_) (fun hc1 => ?_)
  · replace K := (if_pos hc1).symm.trans K
    refine jx_next (pc := 8) (pc' := 9) rfl rfl ?_
    refine jx_geti (pc := 9) rfl ho ?_
    refine jx_next (pc := 12) (pc' := 13) rfl rfl ?_
    refine jx_getw (pc := 13) rfl hv1 ?_
    refine jx_icne (pc := 16) rfl (fun hc2 => ?_) (fun hc2 => ?_)
    · replace K := (if_pos hc2).symm.trans K
      refine jx_next (pc := 19) (pc' := 20) rfl rfl ?_
      refine jx_next (pc := 20) (pc' := 24) rfl rfl ?_
      obtain rfl := K
      exact jx_zret (pc := 24) rfl (Or.inr rfl) HQ
    · replace K := (if_neg hc2).symm.trans K
      refine jx_next (pc := 23) (pc' := 24) rfl rfl ?_
      obtain rfl := K
      exact jx_zret (pc := 24) rfl (Or.inl rfl) HQ
  · replace K := (if_neg hc1).symm.trans K
    refine jx_next (pc := 23) (pc' := 24) rfl rfl ?_
    obtain rfl := K
    exact jx_zret (pc := 24) rfl (Or.inl rfl) HQ
/-- AndGuest$Reader.takesWord(LAndGuest$Word;)Z -/
noncomputable def fRd_takesWord (R : jR) (o : Nat) (v1 : Nat) (h : jH) : Option (Int32 × jH) :=
  (if (fRd_standsWord R o v1 h) = 0 then
  (if (fRd_standsWord R o v1 h) = 0 ∨ (fRd_standsWord R o v1 h) = 1 then some (fRd_standsWord R o v1 h, h) else none)
  else
  (Option.bind (fRd_step R o h) (fun (z2 : jH) =>
  (if (fRd_standsWord R o v1 h) = 0 ∨ (fRd_standsWord R o v1 h) = 1 then some (fRd_standsWord R o v1 h, z2) else none))))
theorem kRd_takesWord {X : jX} {d : Nat} {R : jR} {Q : Option Value → jS → Prop} {o : Nat} {v1 : Nat} {h : jH} (hT : jTy R) (ho : jcl 176 o = 3) (hv1 : jcl 176 v1 = 13) (hd : 3 ≤ d) {z : Int32 × jH} (K : fRd_takesWord R o v1 h = some z) (HQ : Q (some (.int z.1)) (176, R, z.2)) :
    jCa X d 35 [.ref o, .ref v1] (176, R, h) Q := by
  obtain ⟨d, rfl⟩ : ∃ d9, d = d9 + 1 := ⟨d - 1, by omega⟩
  unfold fRd_takesWord at K
  refine jCa_of (es := jc_35) (pl := [some (.ref o), some (.ref v1), none]) (M := jm_35) rfl rfl rfl rfl ?_
  refine jx_next (pc := 0) (pc' := 1) rfl rfl ?_
  refine jx_next (pc := 1) (pc' := 2) rfl rfl ?_
  refine jx_callv (pc := 2) (o := o) (rest := []) rfl ⟨by decide, by decide⟩ rfl ho (Nat.le_of_ble_eq_true rfl) ?_
  refine kRd_standsWord hT ho hv1 (by omega) rfl ?_
  refine jx_stin (pc := 5) (p2 := [some (.ref o), some (.ref v1), some (.int (fRd_standsWord R o v1 h))]) rfl (jlt rfl) rfl ?_
  refine jx_next (pc := 6) (pc' := 7) rfl rfl ?_
  refine jx_ifeq (pc := 7) rfl (fun hc1 => ?_) (fun hc1 => ?_)
  · replace K := (if_pos hc1).symm.trans K
    refine jx_next (pc := 14) (pc' := 15) rfl rfl ?_
    obtain ⟨hg, K⟩ := jguard K
    obtain rfl := Option.some.inj K
    exact jx_zret (pc := 15) rfl hg HQ
  · replace K := (if_neg hc1).symm.trans K
    refine jx_next (pc := 10) (pc' := 11) rfl rfl ?_
    refine jx_callv (pc := 11) (o := o) (rest := []) rfl ⟨by decide, by decide⟩ rfl ho (Nat.le_of_ble_eq_true rfl) ?_
    obtain ⟨z2, hz_z2, K⟩ := Option.bind_eq_some_iff.mp K
    refine kRd_step hT ho (by omega) hz_z2 ?_
    refine jx_next (pc := 14) (pc' := 15) rfl rfl ?_
    obtain ⟨hg, K⟩ := jguard K
    obtain rfl := Option.some.inj K
    exact jx_zret (pc := 15) rfl hg HQ
noncomputable def fRd_fail_j17 (R : jR) (o : Nat) (h : jH) : jH :=
  jhI h o 3 5
theorem kRd_fail_j17 {X : jX} {d : Nat} {R : jR} {Q : Option Value → jS → Prop} {o : Nat} {h : jH} (hT : jTy R) (ho : jcl 176 o = 3) (hd : 0 ≤ d) {z : jH} (K : fRd_fail_j17 R o h = z) (HQ : Q none (176, R, z)) :
    jEx X d jc_38 17 [some (.ref o), none, none] [] (176, R, h) Q := by
  unfold fRd_fail_j17 at K
  refine jx_next (pc := 17) (pc' := 18) rfl rfl ?_
  refine jx_next (pc := 18) (pc' := 19) rfl rfl ?_
  refine jx_puti (pc := 19) rfl ho ?_
  obtain rfl := K
  exact jx_ret (pc := 22) rfl rfl HQ
/-- AndGuest$Reader.fail(II)V -/
noncomputable def fRd_fail (R : jR) (o : Nat) (v1 : Int32) (v2 : Int32) (h : jH) : jH :=
  (if (h.1 o 5) = 0 then
  fRd_fail_j17 R o (jhI (jhI h o 5 v1) o 6 v2)
  else
  fRd_fail_j17 R o h)
theorem kRd_fail {X : jX} {d : Nat} {R : jR} {Q : Option Value → jS → Prop} {o : Nat} {v1 : Int32} {v2 : Int32} {h : jH} (hT : jTy R) (ho : jcl 176 o = 3) (hd : 0 ≤ d) {z : jH} (K : fRd_fail R o v1 v2 h = z) (HQ : Q none (176, R, z)) :
    jCa X d 38 [.ref o, .int v1, .int v2] (176, R, h) Q := by
  unfold fRd_fail at K
  refine jCa_of (es := jc_38) (pl := [some (.ref o), some (.int v1), some (.int v2)]) (M := jm_38) rfl rfl rfl rfl ?_
  refine jx_next (pc := 0) (pc' := 1) rfl rfl ?_
  refine jx_geti (pc := 1) rfl ho ?_
  refine jx_ifne (pc := 4) rfl (fun hc1 => ?_) (fun hc1 => ?_)
  · replace K := (if_pos hc1).symm.trans K
    refine jx_next (pc := 7) (pc' := 8) rfl rfl ?_
    refine jx_next (pc := 8) (pc' := 9) rfl rfl ?_
    refine jx_puti (pc := 9) rfl ho ?_
    refine jx_next (pc := 12) (pc' := 13) rfl rfl ?_
    refine jx_next (pc := 13) (pc' := 14) rfl rfl ?_
    refine jx_puti (pc := 14) rfl ho ?_
    refine jx_le (pl' := [some (.ref o), none, none]) (jle_v (jle_n (jle_n jle_nil))) ?_
    exact kRd_fail_j17 hT ho hd K HQ
  · replace K := (if_neg hc1).symm.trans K
    refine jx_le (pl' := [some (.ref o), none, none]) (jle_v (jle_n (jle_n jle_nil))) ?_
    exact kRd_fail_j17 hT ho hd K HQ
/-- AndGuest$Reader.failHere(I)V -/
noncomputable def fRd_failHere (R : jR) (o : Nat) (v1 : Int32) (h : jH) : jH :=
  (fRd_fail R o v1 (h.1 o 1) h)
theorem kRd_failHere {X : jX} {d : Nat} {R : jR} {Q : Option Value → jS → Prop} {o : Nat} {v1 : Int32} {h : jH} (hT : jTy R) (ho : jcl 176 o = 3) (hd : 1 ≤ d) {z : jH} (K : fRd_failHere R o v1 h = z) (HQ : Q none (176, R, z)) :
    jCa X d 37 [.ref o, .int v1] (176, R, h) Q := by
  obtain ⟨d, rfl⟩ : ∃ d9, d = d9 + 1 := ⟨d - 1, by omega⟩
  unfold fRd_failHere at K
  refine jCa_of (es := jc_37) (pl := [some (.ref o), some (.int v1)]) (M := jm_37) rfl rfl rfl rfl ?_
  refine jx_next (pc := 0) (pc' := 1) rfl rfl ?_
  refine jx_next (pc := 1) (pc' := 2) rfl rfl ?_
  refine jx_next (pc := 2) (pc' := 3) rfl rfl ?_
  refine jx_geti (pc := 3) rfl ho ?_
  refine jx_callv (pc := 6) (o := o) (rest := []) rfl ⟨by decide, by decide⟩ rfl ho (Nat.le_of_ble_eq_true rfl) ?_
  refine kRd_fail hT ho (by omega) rfl ?_
  obtain rfl := K
  exact jx_ret (pc := 9) rfl rfl HQ
/-- AndGuest$Reader.wantsWord(LAndGuest$Word;)V -/
noncomputable def fRd_wantsWord (R : jR) (o : Nat) (v1 : Nat) (h : jH) : Option jH :=
  (Option.bind (fRd_takesWord R o v1 h) (fun (z1 : Int32 × jH) =>
  (if z1.1 = 0 then
  some (fRd_failHere R o 1 z1.2)
  else
  some z1.2)))
theorem kRd_wantsWord {X : jX} {d : Nat} {R : jR} {Q : Option Value → jS → Prop} {o : Nat} {v1 : Nat} {h : jH} (hT : jTy R) (ho : jcl 176 o = 3) (hv1 : jcl 176 v1 = 13) (hd : 4 ≤ d) {z : jH} (K : fRd_wantsWord R o v1 h = some z) (HQ : Q none (176, R, z)) :
    jCa X d 34 [.ref o, .ref v1] (176, R, h) Q := by
  obtain ⟨d, rfl⟩ : ∃ d9, d = d9 + 1 := ⟨d - 1, by omega⟩
  unfold fRd_wantsWord at K
  refine jCa_of (es := jc_34) (pl := [some (.ref o), some (.ref v1)]) (M := jm_34) rfl rfl rfl rfl ?_
  refine jx_next (pc := 0) (pc' := 1) rfl rfl ?_
  refine jx_next (pc := 1) (pc' := 2) rfl rfl ?_
  refine jx_callv (pc := 2) (o := o) (rest := []) rfl ⟨by decide, by decide⟩ rfl ho (Nat.le_of_ble_eq_true rfl) ?_
  obtain ⟨z1, hz_z1, K⟩ := Option.bind_eq_some_iff.mp K
  refine kRd_takesWord hT ho hv1 (by omega) hz_z1 ?_
  refine jx_ifne (pc := 5) rfl (fun hc2 => ?_) (fun hc2 => ?_)
  · replace K := (if_pos hc2).symm.trans K
    refine jx_next (pc := 8) (pc' := 9) rfl rfl ?_
    refine jx_next (pc := 9) (pc' := 10) rfl rfl ?_
    refine jx_callv (pc := 10) (o := o) (rest := []) rfl ⟨by decide, by decide⟩ rfl ho (Nat.le_of_ble_eq_true rfl) ?_
    refine kRd_failHere hT ho (by omega) rfl ?_
    obtain rfl := Option.some.inj K
    exact jx_ret (pc := 13) rfl rfl HQ
  · replace K := (if_neg hc2).symm.trans K
    obtain rfl := Option.some.inj K
    exact jx_ret (pc := 13) rfl rfl HQ
/-- AndGuest$Reader.wantsNumber(I)I -/
noncomputable def fRd_wantsNumber (R : jR) (o : Nat) (v1 : Int32) (h : jH) : Option (Int32 × jH) :=
  (if (h.1 o 3) = 2 then
  (if 4 < ((h.1 o 2) - (h.1 o 1)) then
  some (0, (fRd_fail R o 1 ((h.1 o 1) + 4) h))
  else
  (if v1 < (h.1 o 4) then
  some (0, (fRd_failHere R o 2 h))
  else
  (Option.bind (fRd_step R o h) (fun (z6 : jH) =>
  some (h.1 o 4, z6)))))
  else
  some (0, (fRd_failHere R o 1 h)))
theorem kRd_wantsNumber {X : jX} {d : Nat} {R : jR} {Q : Option Value → jS → Prop} {o : Nat} {v1 : Int32} {h : jH} (hT : jTy R) (ho : jcl 176 o = 3) (hd : 3 ≤ d) {z : Int32 × jH} (K : fRd_wantsNumber R o v1 h = some z) (HQ : Q (some (.int z.1)) (176, R, z.2)) :
    jCa X d 39 [.ref o, .int v1] (176, R, h) Q := by
  obtain ⟨d, rfl⟩ : ∃ d9, d = d9 + 1 := ⟨d - 1, by omega⟩
  unfold fRd_wantsNumber at K
  refine jCa_of (es := jc_39) (pl := [some (.ref o), some (.int v1), none]) (M := jm_39) rfl rfl rfl rfl ?_
  refine jx_next (pc := 0) (pc' := 1) rfl rfl ?_
  refine jx_geti (pc := 1) rfl ho ?_
  refine jx_stin (pc := 4) (p2 := [some (.ref o), some (.int v1), some (.int (h.1 o 4))]) rfl (jlt rfl) rfl ?_
  refine jx_next (pc := 5) (pc' := 6) rfl rfl ?_
  refine jx_geti (pc := 6) rfl ho ?_
  refine jx_next (pc := 9) (pc' := 10) rfl rfl ?_
  refine jx_iceq (pc := 10) rfl (fun hc1 => ?_) (fun hc1 => ?_)
  · replace K := (if_pos hc1).symm.trans K
    refine jx_next (pc := 21) (pc' := 22) rfl rfl ?_
    refine jx_geti (pc := 22) rfl ho ?_
    refine jx_next (pc := 25) (pc' := 26) rfl rfl ?_
    refine jx_geti (pc := 26) rfl ho ?_
    refine jx_next (pc := 29) (pc' := 30) rfl rfl ?_
    refine jx_next (pc := 30) (pc' := 31) rfl rfl ?_
    refine jx_icle (pc := 31) rfl (fun hc2 => ?_) (fun hc2 => ?_)
    · replace K := (if_pos hc2).symm.trans K
      refine jx_next (pc := 34) (pc' := 35) rfl rfl ?_
      refine jx_next (pc := 35) (pc' := 36) rfl rfl ?_
      refine jx_next (pc := 36) (pc' := 37) rfl rfl ?_
      refine jx_geti (pc := 37) rfl ho ?_
      refine jx_next (pc := 40) (pc' := 41) rfl rfl ?_
      refine jx_next (pc := 41) (pc' := 42) rfl rfl ?_
      refine jx_callv (pc := 42) (o := o) (rest := []) rfl ⟨by decide, by decide⟩ rfl ho (Nat.le_of_ble_eq_true rfl) ?_
      refine kRd_fail hT ho (by omega) rfl ?_
      refine jx_next (pc := 45) (pc' := 67) rfl rfl ?_
      refine jx_next (pc := 67) (pc' := 68) rfl rfl ?_
      obtain rfl := Option.some.inj K
      exact jx_iret (pc := 68) rfl HQ
    · replace K := (if_neg hc2).symm.trans K
      refine jx_next (pc := 48) (pc' := 49) rfl rfl ?_
      refine jx_next (pc := 49) (pc' := 50) rfl rfl ?_
      refine jx_icle (pc := 50) rfl (fun hc4 => ?_) (fun hc4 => ?_)
      · replace K := (if_pos hc4).symm.trans K
        refine jx_next (pc := 53) (pc' := 54) rfl rfl ?_
        refine jx_next (pc := 54) (pc' := 55) rfl rfl ?_
        refine jx_callv (pc := 55) (o := o) (rest := []) rfl ⟨by decide, by decide⟩ rfl ho (Nat.le_of_ble_eq_true rfl) ?_
        refine kRd_failHere hT ho (by omega) rfl ?_
        refine jx_next (pc := 58) (pc' := 67) rfl rfl ?_
        refine jx_next (pc := 67) (pc' := 68) rfl rfl ?_
        obtain rfl := Option.some.inj K
        exact jx_iret (pc := 68) rfl HQ
      · replace K := (if_neg hc4).symm.trans K
        refine jx_next (pc := 61) (pc' := 62) rfl rfl ?_
        refine jx_callv (pc := 62) (o := o) (rest := []) rfl ⟨by decide, by decide⟩ rfl ho (Nat.le_of_ble_eq_true rfl) ?_
        obtain ⟨z6, hz_z6, K⟩ := Option.bind_eq_some_iff.mp K
        refine kRd_step hT ho (by omega) hz_z6 ?_
        refine jx_next (pc := 65) (pc' := 66) rfl rfl ?_
        obtain rfl := Option.some.inj K
        exact jx_iret (pc := 66) rfl HQ
  · replace K := (if_neg hc1).symm.trans K
    refine jx_next (pc := 13) (pc' := 14) rfl rfl ?_
    refine jx_next (pc := 14) (pc' := 15) rfl rfl ?_
    refine jx_callv (pc := 15) (o := o) (rest := []) rfl ⟨by decide, by decide⟩ rfl ho (Nat.le_of_ble_eq_true rfl) ?_
    refine kRd_failHere hT ho (by omega) rfl ?_
    refine jx_next (pc := 18) (pc' := 67) rfl rfl ?_
    refine jx_next (pc := 67) (pc' := 68) rfl rfl ?_
    obtain rfl := Option.some.inj K
    exact jx_iret (pc := 68) rfl HQ
/-- AndGuest$PlanReader.readSeats(LAndGuest$Plan;)V -/
noncomputable def fPr_readSeats (R : jR) (o : Nat) (v1 : Nat) (h : jH) : Option jH :=
  (Option.bind (fRd_wantsWord R (R o 0) 1000 h) (fun (z1 : jH) =>
  (Option.bind (fRd_wantsNumber R (R o 0) 40 z1) (fun (z2 : Int32 × jH) =>
  (Option.bind (fRd_wantsWord R (R o 0) 1001 (jhI z2.2 v1 3 z2.1)) (fun (z3 : jH) =>
  (Option.bind (fRd_wantsNumber R (R o 0) 99 z3) (fun (z4 : Int32 × jH) =>
  (Option.bind (fRd_wantsWord R (R o 0) 1002 (jhI z4.2 v1 4 z4.1)) (fun (z5 : jH) =>
  (Option.bind (fRd_wantsNumber R (R o 0) 99 z5) (fun (z6 : Int32 × jH) =>
  (Option.bind (fRd_wantsWord R (R o 0) 1003 (jhI z6.2 v1 5 z6.1)) (fun (z7 : jH) =>
  (Option.bind (fRd_wantsNumber R (R o 0) 99 z7) (fun (z8 : Int32 × jH) =>
  some (jhI z8.2 v1 6 z8.1)))))))))))))))))
theorem kPr_readSeats {X : jX} {d : Nat} {R : jR} {Q : Option Value → jS → Prop} {o : Nat} {v1 : Nat} {h : jH} (hT : jTy R) (ho : jcl 176 o = 4) (hv1 : jcl 176 v1 = 10) (hd : 5 ≤ d) {z : jH} (K : fPr_readSeats R o v1 h = some z) (HQ : Q none (176, R, z)) :
    jCa X d 33 [.ref o, .ref v1] (176, R, h) Q := by
  obtain ⟨d, rfl⟩ : ∃ d9, d = d9 + 1 := ⟨d - 1, by omega⟩
  unfold fPr_readSeats at K
  refine jCa_of (es := jc_33) (pl := [some (.ref o), some (.ref v1)]) (M := jm_33) rfl rfl rfl rfl ?_
  refine jx_next (pc := 0) (pc' := 1) rfl rfl ?_
  refine jx_getr (pc := 1) rfl ho ?_
  refine jx_next (pc := 4) (pc' := 7) rfl rfl ?_
  refine jx_callv (pc := 7) (o := (R o 0)) (rest := []) rfl ⟨by decide, by decide⟩ rfl (jtR hT ho (k := 0) (c := 3) rfl) (Nat.le_of_ble_eq_true rfl) ?_
  obtain ⟨z1, hz_z1, K⟩ := Option.bind_eq_some_iff.mp K
  refine kRd_wantsWord hT (jtR hT ho (k := 0) (c := 3) rfl) (by decide) (by omega) hz_z1 ?_
  refine jx_next (pc := 10) (pc' := 11) rfl rfl ?_
  refine jx_next (pc := 11) (pc' := 12) rfl rfl ?_
  refine jx_getr (pc := 12) rfl ho ?_
  refine jx_next (pc := 15) (pc' := 17) rfl rfl ?_
  refine jx_callv (pc := 17) (o := (R o 0)) (rest := [.ref v1]) rfl ⟨by decide, by decide⟩ rfl (jtR hT ho (k := 0) (c := 3) rfl) (Nat.le_of_ble_eq_true rfl) ?_
  obtain ⟨z2, hz_z2, K⟩ := Option.bind_eq_some_iff.mp K
  refine kRd_wantsNumber hT (jtR hT ho (k := 0) (c := 3) rfl) (by omega) hz_z2 ?_
  refine jx_puti (pc := 20) rfl hv1 ?_
  refine jx_next (pc := 23) (pc' := 24) rfl rfl ?_
  refine jx_getr (pc := 24) rfl ho ?_
  refine jx_next (pc := 27) (pc' := 30) rfl rfl ?_
  refine jx_callv (pc := 30) (o := (R o 0)) (rest := []) rfl ⟨by decide, by decide⟩ rfl (jtR hT ho (k := 0) (c := 3) rfl) (Nat.le_of_ble_eq_true rfl) ?_
  obtain ⟨z3, hz_z3, K⟩ := Option.bind_eq_some_iff.mp K
  refine kRd_wantsWord hT (jtR hT ho (k := 0) (c := 3) rfl) (by decide) (by omega) hz_z3 ?_
  refine jx_next (pc := 33) (pc' := 34) rfl rfl ?_
  refine jx_next (pc := 34) (pc' := 35) rfl rfl ?_
  refine jx_getr (pc := 35) rfl ho ?_
  refine jx_next (pc := 38) (pc' := 40) rfl rfl ?_
  refine jx_callv (pc := 40) (o := (R o 0)) (rest := [.ref v1]) rfl ⟨by decide, by decide⟩ rfl (jtR hT ho (k := 0) (c := 3) rfl) (Nat.le_of_ble_eq_true rfl) ?_
  obtain ⟨z4, hz_z4, K⟩ := Option.bind_eq_some_iff.mp K
  refine kRd_wantsNumber hT (jtR hT ho (k := 0) (c := 3) rfl) (by omega) hz_z4 ?_
  refine jx_puti (pc := 43) rfl hv1 ?_
  refine jx_next (pc := 46) (pc' := 47) rfl rfl ?_
  refine jx_getr (pc := 47) rfl ho ?_
  refine jx_next (pc := 50) (pc' := 53) rfl rfl ?_
  refine jx_callv (pc := 53) (o := (R o 0)) (rest := []) rfl ⟨by decide, by decide⟩ rfl (jtR hT ho (k := 0) (c := 3) rfl) (Nat.le_of_ble_eq_true rfl) ?_
  obtain ⟨z5, hz_z5, K⟩ := Option.bind_eq_some_iff.mp K
  refine kRd_wantsWord hT (jtR hT ho (k := 0) (c := 3) rfl) (by decide) (by omega) hz_z5 ?_
  refine jx_next (pc := 56) (pc' := 57) rfl rfl ?_
  refine jx_next (pc := 57) (pc' := 58) rfl rfl ?_
  refine jx_getr (pc := 58) rfl ho ?_
  refine jx_next (pc := 61) (pc' := 63) rfl rfl ?_
  refine jx_callv (pc := 63) (o := (R o 0)) (rest := [.ref v1]) rfl ⟨by decide, by decide⟩ rfl (jtR hT ho (k := 0) (c := 3) rfl) (Nat.le_of_ble_eq_true rfl) ?_
  obtain ⟨z6, hz_z6, K⟩ := Option.bind_eq_some_iff.mp K
  refine kRd_wantsNumber hT (jtR hT ho (k := 0) (c := 3) rfl) (by omega) hz_z6 ?_
  refine jx_puti (pc := 66) rfl hv1 ?_
  refine jx_next (pc := 69) (pc' := 70) rfl rfl ?_
  refine jx_getr (pc := 70) rfl ho ?_
  refine jx_next (pc := 73) (pc' := 76) rfl rfl ?_
  refine jx_callv (pc := 76) (o := (R o 0)) (rest := []) rfl ⟨by decide, by decide⟩ rfl (jtR hT ho (k := 0) (c := 3) rfl) (Nat.le_of_ble_eq_true rfl) ?_
  obtain ⟨z7, hz_z7, K⟩ := Option.bind_eq_some_iff.mp K
  refine kRd_wantsWord hT (jtR hT ho (k := 0) (c := 3) rfl) (by decide) (by omega) hz_z7 ?_
  refine jx_next (pc := 79) (pc' := 80) rfl rfl ?_
  refine jx_next (pc := 80) (pc' := 81) rfl rfl ?_
  refine jx_getr (pc := 81) rfl ho ?_
  refine jx_next (pc := 84) (pc' := 86) rfl rfl ?_
  refine jx_callv (pc := 86) (o := (R o 0)) (rest := [.ref v1]) rfl ⟨by decide, by decide⟩ rfl (jtR hT ho (k := 0) (c := 3) rfl) (Nat.le_of_ble_eq_true rfl) ?_
  obtain ⟨z8, hz_z8, K⟩ := Option.bind_eq_some_iff.mp K
  refine kRd_wantsNumber hT (jtR hT ho (k := 0) (c := 3) rfl) (by omega) hz_z8 ?_
  refine jx_puti (pc := 89) rfl hv1 ?_
  obtain rfl := Option.some.inj K
  exact jx_ret (pc := 92) rfl rfl HQ
/-- AndGuest$Reader.standsSign(C)Z -/
noncomputable def fRd_standsSign (R : jR) (o : Nat) (v1 : Int32) (h : jH) : Int32 :=
  (if (h.1 o 3) = 3 then
  (if (h.1 o 4) = v1 then
  (1 : Int32)
  else
  (0 : Int32))
  else
  (0 : Int32))
theorem kRd_standsSign {X : jX} {d : Nat} {R : jR} {Q : Option Value → jS → Prop} {o : Nat} {v1 : Int32} {h : jH} (hT : jTy R) (ho : jcl 176 o = 3) (hd : 0 ≤ d) {z : Int32} (K : fRd_standsSign R o v1 h = z) (HQ : Q (some (.int z)) (176, R, h)) :
    jCa X d 42 [.ref o, .int v1] (176, R, h) Q := by
  unfold fRd_standsSign at K
  refine jCa_of (es := jc_42) (pl := [some (.ref o), some (.int v1)]) (M := jm_42) rfl rfl rfl rfl ?_
  refine jx_next (pc := 0) (pc' := 1) rfl rfl ?_
  refine jx_geti (pc := 1) rfl ho ?_
  refine jx_next (pc := 4) (pc' := 5) rfl rfl ?_
  refine jx_icne (pc := 5) rfl (fun hc1 => ?_) (fun hc1 => ?_)
  · replace K := (if_pos hc1).symm.trans K
    refine jx_next (pc := 8) (pc' := 9) rfl rfl ?_
    refine jx_geti (pc := 9) rfl ho ?_
    refine jx_next (pc := 12) (pc' := 13) rfl rfl ?_
    refine jx_icne (pc := 13) rfl (fun hc2 => ?_) (fun hc2 => ?_)
    · replace K := (if_pos hc2).symm.trans K
      refine jx_next (pc := 16) (pc' := 17) rfl rfl ?_
      refine jx_next (pc := 17) (pc' := 21) rfl rfl ?_
      obtain rfl := K
      exact jx_zret (pc := 21) rfl (Or.inr rfl) HQ
    · replace K := (if_neg hc2).symm.trans K
      refine jx_next (pc := 20) (pc' := 21) rfl rfl ?_
      obtain rfl := K
      exact jx_zret (pc := 21) rfl (Or.inl rfl) HQ
  · replace K := (if_neg hc1).symm.trans K
    refine jx_next (pc := 20) (pc' := 21) rfl rfl ?_
    obtain rfl := K
    exact jx_zret (pc := 21) rfl (Or.inl rfl) HQ
/-- AndGuest$Reader.takesSign(C)Z -/
noncomputable def fRd_takesSign (R : jR) (o : Nat) (v1 : Int32) (h : jH) : Option (Int32 × jH) :=
  (if (fRd_standsSign R o v1 h) = 0 then
  (if (fRd_standsSign R o v1 h) = 0 ∨ (fRd_standsSign R o v1 h) = 1 then some (fRd_standsSign R o v1 h, h) else none)
  else
  (Option.bind (fRd_step R o h) (fun (z2 : jH) =>
  (if (fRd_standsSign R o v1 h) = 0 ∨ (fRd_standsSign R o v1 h) = 1 then some (fRd_standsSign R o v1 h, z2) else none))))
theorem kRd_takesSign {X : jX} {d : Nat} {R : jR} {Q : Option Value → jS → Prop} {o : Nat} {v1 : Int32} {h : jH} (hT : jTy R) (ho : jcl 176 o = 3) (hd : 3 ≤ d) {z : Int32 × jH} (K : fRd_takesSign R o v1 h = some z) (HQ : Q (some (.int z.1)) (176, R, z.2)) :
    jCa X d 41 [.ref o, .int v1] (176, R, h) Q := by
  obtain ⟨d, rfl⟩ : ∃ d9, d = d9 + 1 := ⟨d - 1, by omega⟩
  unfold fRd_takesSign at K
  refine jCa_of (es := jc_41) (pl := [some (.ref o), some (.int v1), none]) (M := jm_41) rfl rfl rfl rfl ?_
  refine jx_next (pc := 0) (pc' := 1) rfl rfl ?_
  refine jx_next (pc := 1) (pc' := 2) rfl rfl ?_
  refine jx_callv (pc := 2) (o := o) (rest := []) rfl ⟨by decide, by decide⟩ rfl ho (Nat.le_of_ble_eq_true rfl) ?_
  refine kRd_standsSign hT ho (by omega) rfl ?_
  refine jx_stin (pc := 5) (p2 := [some (.ref o), some (.int v1), some (.int (fRd_standsSign R o v1 h))]) rfl (jlt rfl) rfl ?_
  refine jx_next (pc := 6) (pc' := 7) rfl rfl ?_
  refine jx_ifeq (pc := 7) rfl (fun hc1 => ?_) (fun hc1 => ?_)
  · replace K := (if_pos hc1).symm.trans K
    refine jx_next (pc := 14) (pc' := 15) rfl rfl ?_
    obtain ⟨hg, K⟩ := jguard K
    obtain rfl := Option.some.inj K
    exact jx_zret (pc := 15) rfl hg HQ
  · replace K := (if_neg hc1).symm.trans K
    refine jx_next (pc := 10) (pc' := 11) rfl rfl ?_
    refine jx_callv (pc := 11) (o := o) (rest := []) rfl ⟨by decide, by decide⟩ rfl ho (Nat.le_of_ble_eq_true rfl) ?_
    obtain ⟨z2, hz_z2, K⟩ := Option.bind_eq_some_iff.mp K
    refine kRd_step hT ho (by omega) hz_z2 ?_
    refine jx_next (pc := 14) (pc' := 15) rfl rfl ?_
    obtain ⟨hg, K⟩ := jguard K
    obtain rfl := Option.some.inj K
    exact jx_zret (pc := 15) rfl hg HQ
/-- AndGuest$Reader.wantsSign(C)V -/
noncomputable def fRd_wantsSign (R : jR) (o : Nat) (v1 : Int32) (h : jH) : Option jH :=
  (Option.bind (fRd_takesSign R o v1 h) (fun (z1 : Int32 × jH) =>
  (if z1.1 = 0 then
  some (fRd_failHere R o 1 z1.2)
  else
  some z1.2)))
theorem kRd_wantsSign {X : jX} {d : Nat} {R : jR} {Q : Option Value → jS → Prop} {o : Nat} {v1 : Int32} {h : jH} (hT : jTy R) (ho : jcl 176 o = 3) (hd : 4 ≤ d) {z : jH} (K : fRd_wantsSign R o v1 h = some z) (HQ : Q none (176, R, z)) :
    jCa X d 40 [.ref o, .int v1] (176, R, h) Q := by
  obtain ⟨d, rfl⟩ : ∃ d9, d = d9 + 1 := ⟨d - 1, by omega⟩
  unfold fRd_wantsSign at K
  refine jCa_of (es := jc_40) (pl := [some (.ref o), some (.int v1)]) (M := jm_40) rfl rfl rfl rfl ?_
  refine jx_next (pc := 0) (pc' := 1) rfl rfl ?_
  refine jx_next (pc := 1) (pc' := 2) rfl rfl ?_
  refine jx_callv (pc := 2) (o := o) (rest := []) rfl ⟨by decide, by decide⟩ rfl ho (Nat.le_of_ble_eq_true rfl) ?_
  obtain ⟨z1, hz_z1, K⟩ := Option.bind_eq_some_iff.mp K
  refine kRd_takesSign hT ho (by omega) hz_z1 ?_
  refine jx_ifne (pc := 5) rfl (fun hc2 => ?_) (fun hc2 => ?_)
  · replace K := (if_pos hc2).symm.trans K
    refine jx_next (pc := 8) (pc' := 9) rfl rfl ?_
    refine jx_next (pc := 9) (pc' := 10) rfl rfl ?_
    refine jx_callv (pc := 10) (o := o) (rest := []) rfl ⟨by decide, by decide⟩ rfl ho (Nat.le_of_ble_eq_true rfl) ?_
    refine kRd_failHere hT ho (by omega) rfl ?_
    obtain rfl := Option.some.inj K
    exact jx_ret (pc := 13) rfl rfl HQ
  · replace K := (if_neg hc2).symm.trans K
    obtain rfl := Option.some.inj K
    exact jx_ret (pc := 13) rfl rfl HQ
