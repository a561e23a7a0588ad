noncomputable def fM_guestHere_j32 (R : jR) (o : Nat) (v3 : Int32) (h : jH) : Option (Int32 × jH) :=
  (if (h.1 o 5) = 0 then
  some (v3, h)
  else
  some (0, h))
theorem kM_guestHere_j32 {X : jX} {d : Nat} {R : jR} {Q : Option Value → jS → Prop} {o : Nat} {v3 : Int32} {h : jH} (hT : jTy R) (ho : jcl 176 o = 12) (hd : 4 ≤ (d + 1)) {z : Int32 × jH} (K : fM_guestHere_j32 R o v3 h = some z) (HQ : Q (some (.int z.1)) (176, R, z.2)) :
    jEx X (d + 1) jc_210 32 [some (.ref o), none, none, some (.int v3)] [] (176, R, h) Q := by
  unfold fM_guestHere_j32 at K
  refine jx_next (pc := 32) (pc' := 33) rfl rfl ?_
  refine jx_geti (pc := 33) rfl ho ?_
  refine jx_ifne (pc := 36) rfl (fun hc6 => ?_) (fun hc6 => ?_)
  · replace K := (if_pos hc6).symm.trans K
    refine jx_next (pc := 39) (pc' := 40) rfl rfl ?_
    refine jx_next (pc := 40) (pc' := 44) rfl rfl ?_
    obtain rfl := Option.some.inj K
    exact jx_iret (pc := 44) rfl HQ
  · replace K := (if_neg hc6).symm.trans K
    refine jx_next (pc := 43) (pc' := 44) rfl rfl ?_
    obtain rfl := Option.some.inj K
    exact jx_iret (pc := 44) rfl HQ
/-- AndGuestModel.guestHere()I -/
noncomputable def fM_guestHere (R : jR) (o : Nat) (h : jH) : Option (Int32 × jH) :=
  (Option.bind (fM_name R o h) (fun (z1 : Int64 × jH) =>
  (Option.bind (fM_nameOf R o z1.1 z1.2) (fun (z2 : Int32) =>
  (if (z1.2.1 o 5) = 0 then
  (if z2 = (-1) then
  fM_guestHere_j32 R o z2 (fM_fail R o 3 (z1.2.1 o 35) z1.2)
  else
  fM_guestHere_j32 R o z2 z1.2)
  else
  fM_guestHere_j32 R o z2 z1.2)))))
theorem kM_guestHere {X : jX} {d : Nat} {R : jR} {Q : Option Value → jS → Prop} {o : Nat} {h : jH} (hT : jTy R) (ho : jcl 176 o = 12) (hd : 4 ≤ d) {z : Int32 × jH} (K : fM_guestHere R o h = some z) (HQ : Q (some (.int z.1)) (176, R, z.2)) :
    jCa X d 210 [.ref o] (176, R, h) Q := by
  obtain ⟨d, rfl⟩ : ∃ d9, d = d9 + 1 := ⟨d - 1, by omega⟩
  unfold fM_guestHere at K
  refine jCa_of (es := jc_210) (pl := [some (.ref o), none, none, none]) (M := jm_210) rfl rfl rfl rfl ?_
  refine jx_next (pc := 0) (pc' := 1) rfl rfl ?_
  refine jx_callv (pc := 1) (o := o) (rest := []) rfl ⟨by decide, by decide⟩ rfl ho (Nat.le_of_ble_eq_true rfl) ?_
  obtain ⟨z1, hz_z1, K⟩ := Option.bind_eq_some_iff.mp K
  refine kM_name hT ho (by omega) hz_z1 ?_
  refine jx_stln (pc := 4) (p2 := [some (.ref o), some (.long z1.1), none, none]) rfl (jlt rfl) rfl ?_
  refine jx_next (pc := 5) (pc' := 6) rfl rfl ?_
  refine jx_next (pc := 6) (pc' := 7) rfl rfl ?_
  refine jx_callv (pc := 7) (o := o) (rest := []) rfl ⟨by decide, by decide⟩ rfl ho (Nat.le_of_ble_eq_true rfl) ?_
  obtain ⟨z2, hz_z2, K⟩ := Option.bind_eq_some_iff.mp K
  refine kM_nameOf hT ho (by omega) hz_z2 ?_
  refine jx_stin (pc := 10) (p2 := [some (.ref o), some (.long z1.1), none, some (.int z2)]) rfl (jlt rfl) rfl ?_
  refine jx_next (pc := 11) (pc' := 12) rfl rfl ?_
  refine jx_geti (pc := 12) rfl ho ?_
  refine jx_ifne (pc := 15) rfl (fun hc3 => ?_) (fun hc3 => ?_)
  · replace K := (if_pos hc3).symm.trans K
    refine jx_next (pc := 18) (pc' := 19) rfl rfl ?_
    refine jx_next (pc := 19) (pc' := 20) rfl rfl ?_
    refine jx_icne (pc := 20) rfl (fun hc4 => ?_) (fun hc4 => ?_)
    · replace K := (if_pos hc4).symm.trans K
      refine jx_next (pc := 23) (pc' := 24) rfl rfl ?_
      refine jx_next (pc := 24) (pc' := 25) rfl rfl ?_
      refine jx_next (pc := 25) (pc' := 26) rfl rfl ?_
      refine jx_geti (pc := 26) rfl ho ?_
      refine jx_callv (pc := 29) (o := o) (rest := []) rfl ⟨by decide, by decide⟩ rfl ho (Nat.le_of_ble_eq_true rfl) ?_
      refine kM_fail hT ho (by omega) rfl ?_
      refine jx_le (pl' := [some (.ref o), none, none, some (.int z2)]) (jle_v (jle_n (jle_n (jle_v jle_nil)))) ?_
      exact kM_guestHere_j32 hT ho hd K HQ
    · replace K := (if_neg hc4).symm.trans K
      refine jx_le (pl' := [some (.ref o), none, none, some (.int z2)]) (jle_v (jle_n (jle_n (jle_v jle_nil)))) ?_
      exact kM_guestHere_j32 hT ho hd K HQ
  · replace K := (if_neg hc3).symm.trans K
    refine jx_le (pl' := [some (.ref o), none, none, some (.int z2)]) (jle_v (jle_n (jle_n (jle_v jle_nil)))) ?_
    exact kM_guestHere_j32 hT ho hd K HQ
noncomputable def fM_pullTold_j57 (R : jR) (o : Nat) (v2 : Int32) (v3 : Int32) (h : jH) : Option jH :=
  (if (h.1 o 5) = 0 then
  (if jin v2 (jsh (R o 40)).2 then
  (if jin v2 (jsh (R o 40)).2 then
  (if jin 1 (jsh (R o 36)).2 then
  (if jin 1 (jsh (R o 36)).2 then
  some (jhI (jhI h (R o 40) v2.toNatClampNeg ((h.1 (R o 40) v2.toNatClampNeg) ||| (1 <<< (v3 &&& 31)))) (R o 36) (1 : Int32).toNatClampNeg (((jhI h (R o 40) v2.toNatClampNeg ((h.1 (R o 40) v2.toNatClampNeg) ||| (1 <<< (v3 &&& 31)))).1 (R o 36) (1 : Int32).toNatClampNeg) + 1))
  else none)
  else none)
  else none)
  else none)
  else
  some h)
theorem kM_pullTold_j57 {X : jX} {d : Nat} {R : jR} {Q : Option Value → jS → Prop} {o : Nat} {v2 : Int32} {v3 : Int32} {h : jH} (hT : jTy R) (ho : jcl 176 o = 12) (hd : 5 ≤ (d + 1)) {z : jH} (K : fM_pullTold_j57 R o v2 v3 h = some z) (HQ : Q none (176, R, z)) :
    jEx X (d + 1) jc_209 57 [some (.ref o), none, some (.int v2), some (.int v3)] [] (176, R, h) Q := by
  unfold fM_pullTold_j57 at K
  refine jx_next (pc := 57) (pc' := 58) rfl rfl ?_
  refine jx_geti (pc := 58) rfl ho ?_
  refine jx_ifeq (pc := 61) rfl (fun hc8 => ?_) (fun hc8 => ?_)
  · replace K := (if_pos hc8).symm.trans K
    refine jx_next (pc := 65) (pc' := 66) rfl rfl ?_
    refine jx_getr (pc := 66) rfl ho ?_
    refine jx_next (pc := 69) (pc' := 70) rfl rfl ?_
    refine jx_next (pc := 70) (pc' := 71) rfl rfl ?_
    obtain ⟨hg9, K⟩ := jguard K
    refine jx_iald (pc := 71) rfl (jtR hT ho (k := 40) (c := 20) rfl) hg9 ?_
    refine jx_next (pc := 72) (pc' := 73) rfl rfl ?_
    refine jx_next (pc := 73) (pc' := 74) rfl rfl ?_
    refine jx_next (pc := 74) (pc' := 75) rfl rfl ?_
    refine jx_next (pc := 75) (pc' := 76) rfl rfl ?_
    obtain ⟨hg10, K⟩ := jguard K
    refine jx_iast (pc := 76) rfl (jtR hT ho (k := 40) (c := 20) rfl) hg10 ?_
    refine jx_next (pc := 77) (pc' := 78) rfl rfl ?_
    refine jx_getr (pc := 78) rfl ho ?_
    refine jx_next (pc := 81) (pc' := 82) rfl rfl ?_
    refine jx_next (pc := 82) (pc' := 83) rfl rfl ?_
    obtain ⟨hg11, K⟩ := jguard K
    refine jx_iald (pc := 83) rfl (jtR hT ho (k := 36) (c := 20) rfl) hg11 ?_
    refine jx_next (pc := 84) (pc' := 85) rfl rfl ?_
    refine jx_next (pc := 85) (pc' := 86) rfl rfl ?_
    obtain ⟨hg12, K⟩ := jguard K
    refine jx_iast (pc := 86) rfl (jtR hT ho (k := 36) (c := 20) rfl) hg12 ?_
    obtain rfl := Option.some.inj K
    exact jx_ret (pc := 87) rfl rfl HQ
  · replace K := (if_neg hc8).symm.trans K
    obtain rfl := Option.some.inj K
    exact jx_ret (pc := 64) rfl rfl HQ
noncomputable def fM_pullTold_j48 (R : jR) (o : Nat) (v2 : Int32) (v3 : Int32) (h : jH) : Option jH :=
  fM_pullTold_j57 R o v2 v3 (fM_fail R o 3 (h.1 o 35) h)
theorem kM_pullTold_j48 {X : jX} {d : Nat} {R : jR} {Q : Option Value → jS → Prop} {o : Nat} {v2 : Int32} {v3 : Int32} {h : jH} (hT : jTy R) (ho : jcl 176 o = 12) (hd : 5 ≤ (d + 1)) {z : jH} (K : fM_pullTold_j48 R o v2 v3 h = some z) (HQ : Q none (176, R, z)) :
    jEx X (d + 1) jc_209 48 [some (.ref o), none, some (.int v2), some (.int v3)] [] (176, R, h) Q := by
  unfold fM_pullTold_j48 at K
  refine jx_next (pc := 48) (pc' := 49) rfl rfl ?_
  refine jx_next (pc := 49) (pc' := 50) rfl rfl ?_
  refine jx_next (pc := 50) (pc' := 51) rfl rfl ?_
  refine jx_geti (pc := 51) rfl ho ?_
  refine jx_callv (pc := 54) (o := o) (rest := []) rfl ⟨by decide, by decide⟩ rfl ho (Nat.le_of_ble_eq_true rfl) ?_
  refine kM_fail hT ho (by omega) rfl ?_
  refine jx_le (pl' := [some (.ref o), none, some (.int v2), some (.int v3)]) (jle_v (jle_n (jle_v (jle_v jle_nil)))) ?_
  exact kM_pullTold_j57 hT ho hd K HQ
/-- AndGuestModel.pullTold(I)V -/
noncomputable def fM_pullTold (R : jR) (o : Nat) (v1 : Int32) (h : jH) : Option jH :=
  (Option.bind (fM_isFull R o 1 16 v1 h) (fun (z1 : Int32 × jH) =>
  (if z1.1 = 0 then
  (Option.bind (fM_guestHere R o z1.2) (fun (z3 : Int32 × jH) =>
  (Option.bind (fM_guestHere R o z3.2) (fun (z4 : Int32 × jH) =>
  (if (z4.2.1 o 5) = 0 then
  (if z3.1 = z4.1 then
  fM_pullTold_j48 R o z3.1 z4.1 z4.2
  else
  (if jin z3.1 (jsh (R o 40)).2 then
  (if (((z4.2.1 (R o 40) z3.1.toNatClampNeg) >>> (z4.1 &&& 31)) &&& 1) = 1 then
  fM_pullTold_j48 R o z3.1 z4.1 z4.2
  else
  fM_pullTold_j57 R o z3.1 z4.1 z4.2)
  else none))
  else
  fM_pullTold_j57 R o z3.1 z4.1 z4.2)))))
  else
  some z1.2)))
theorem kM_pullTold {X : jX} {d : Nat} {R : jR} {Q : Option Value → jS → Prop} {o : Nat} {v1 : Int32} {h : jH} (hT : jTy R) (ho : jcl 176 o = 12) (hd : 5 ≤ d) {z : jH} (K : fM_pullTold R o v1 h = some z) (HQ : Q none (176, R, z)) :
    jCa X d 209 [.ref o, .int v1] (176, R, h) Q := by
  obtain ⟨d, rfl⟩ : ∃ d9, d = d9 + 1 := ⟨d - 1, by omega⟩
  unfold fM_pullTold at K
  refine jCa_of (es := jc_209) (pl := [some (.ref o), some (.int v1), none, none]) (M := jm_209) rfl rfl rfl rfl ?_
  refine jx_next (pc := 0) (pc' := 1) rfl rfl ?_
  refine jx_next (pc := 1) (pc' := 2) rfl rfl ?_
  refine jx_next (pc := 2) (pc' := 4) rfl rfl ?_
  refine jx_next (pc := 4) (pc' := 5) rfl rfl ?_
  refine jx_callv (pc := 5) (o := o) (rest := []) rfl ⟨by decide, by decide⟩ rfl ho (Nat.le_of_ble_eq_true rfl) ?_
  obtain ⟨z1, hz_z1, K⟩ := Option.bind_eq_some_iff.mp K
  refine kM_isFull hT ho (by omega) hz_z1 ?_
  refine jx_ifeq (pc := 8) rfl (fun hc2 => ?_) (fun hc2 => ?_)
  · replace K := (if_pos hc2).symm.trans K
    refine jx_next (pc := 12) (pc' := 13) rfl rfl ?_
    refine jx_callv (pc := 13) (o := o) (rest := []) rfl ⟨by decide, by decide⟩ rfl ho (Nat.le_of_ble_eq_true rfl) ?_
    obtain ⟨z3, hz_z3, K⟩ := Option.bind_eq_some_iff.mp K
    refine kM_guestHere hT ho (by omega) hz_z3 ?_
    refine jx_stin (pc := 16) (p2 := [some (.ref o), some (.int v1), some (.int z3.1), none]) rfl (jlt rfl) rfl ?_
    refine jx_next (pc := 17) (pc' := 18) rfl rfl ?_
    refine jx_callv (pc := 18) (o := o) (rest := []) rfl ⟨by decide, by decide⟩ rfl ho (Nat.le_of_ble_eq_true rfl) ?_
    obtain ⟨z4, hz_z4, K⟩ := Option.bind_eq_some_iff.mp K
    refine kM_guestHere hT ho (by omega) hz_z4 ?_
    refine jx_stin (pc := 21) (p2 := [some (.ref o), some (.int v1), some (.int z3.1), some (.int z4.1)]) rfl (jlt rfl) rfl ?_
    refine jx_next (pc := 22) (pc' := 23) rfl rfl ?_
    refine jx_geti (pc := 23) rfl ho ?_
    refine jx_ifne (pc := 26) rfl (fun hc5 => ?_) (fun hc5 => ?_)
    · replace K := (if_pos hc5).symm.trans K
      refine jx_next (pc := 29) (pc' := 30) rfl rfl ?_
      refine jx_next (pc := 30) (pc' := 31) rfl rfl ?_
      refine jx_iceq (pc := 31) rfl (fun hc6 => ?_) (fun hc6 => ?_)
      · replace K := (if_pos hc6).symm.trans K
        refine jx_le (pl' := [some (.ref o), none, some (.int z3.1), some (.int z4.1)]) (jle_v (jle_n (jle_v (jle_v jle_nil)))) ?_
        exact kM_pullTold_j48 hT ho hd K HQ
      · replace K := (if_neg hc6).symm.trans K
        refine jx_next (pc := 34) (pc' := 35) rfl rfl ?_
        refine jx_getr (pc := 35) rfl ho ?_
        refine jx_next (pc := 38) (pc' := 39) rfl rfl ?_
        obtain ⟨hg13, K⟩ := jguard K
        refine jx_iald (pc := 39) rfl (jtR hT ho (k := 40) (c := 20) rfl) hg13 ?_
        refine jx_next (pc := 40) (pc' := 41) rfl rfl ?_
        refine jx_next (pc := 41) (pc' := 42) rfl rfl ?_
        refine jx_next (pc := 42) (pc' := 43) rfl rfl ?_
        refine jx_next (pc := 43) (pc' := 44) rfl rfl ?_
        refine jx_next (pc := 44) (pc' := 45) rfl rfl ?_
        refine jx_icne (pc := 45) rfl (fun hc14 => ?_) (fun hc14 => ?_)
        · replace K := (if_pos hc14).symm.trans K
          refine jx_le (pl' := [some (.ref o), none, some (.int z3.1), some (.int z4.1)]) (jle_v (jle_n (jle_v (jle_v jle_nil)))) ?_
          exact kM_pullTold_j48 hT ho hd K HQ
        · replace K := (if_neg hc14).symm.trans K
          refine jx_le (pl' := [some (.ref o), none, some (.int z3.1), some (.int z4.1)]) (jle_v (jle_n (jle_v (jle_v jle_nil)))) ?_
          exact kM_pullTold_j57 hT ho hd K HQ
    · replace K := (if_neg hc5).symm.trans K
      refine jx_le (pl' := [some (.ref o), none, some (.int z3.1), some (.int z4.1)]) (jle_v (jle_n (jle_v (jle_v jle_nil)))) ?_
      exact kM_pullTold_j57 hT ho hd K HQ
  · replace K := (if_neg hc2).symm.trans K
    obtain rfl := Option.some.inj K
    exact jx_ret (pc := 11) rfl rfl HQ
noncomputable def fM_hearTold_j57 (R : jR) (o : Nat) (v2 : Int32) (v3 : Int32) (h : jH) : Option jH :=
  (if (h.1 o 5) = 0 then
  (if jin v2 (jsh (R o 41)).2 then
  (if jin v2 (jsh (R o 41)).2 then
  (if jin 2 (jsh (R o 36)).2 then
  (if jin 2 (jsh (R o 36)).2 then
  some (jhI (jhI h (R o 41) v2.toNatClampNeg ((h.1 (R o 41) v2.toNatClampNeg) ||| (1 <<< (v3 &&& 31)))) (R o 36) (2 : Int32).toNatClampNeg (((jhI h (R o 41) v2.toNatClampNeg ((h.1 (R o 41) v2.toNatClampNeg) ||| (1 <<< (v3 &&& 31)))).1 (R o 36) (2 : Int32).toNatClampNeg) + 1))
  else none)
  else none)
  else none)
  else none)
  else
  some h)
theorem kM_hearTold_j57 {X : jX} {d : Nat} {R : jR} {Q : Option Value → jS → Prop} {o : Nat} {v2 : Int32} {v3 : Int32} {h : jH} (hT : jTy R) (ho : jcl 176 o = 12) (hd : 5 ≤ (d + 1)) {z : jH} (K : fM_hearTold_j57 R o v2 v3 h = some z) (HQ : Q none (176, R, z)) :
    jEx X (d + 1) jc_211 57 [some (.ref o), none, some (.int v2), some (.int v3)] [] (176, R, h) Q := by
  unfold fM_hearTold_j57 at K
  refine jx_next (pc := 57) (pc' := 58) rfl rfl ?_
  refine jx_geti (pc := 58) rfl ho ?_
  refine jx_ifeq (pc := 61) rfl (fun hc8 => ?_) (fun hc8 => ?_)
  · replace K := (if_pos hc8).symm.trans K
    refine jx_next (pc := 65) (pc' := 66) rfl rfl ?_
    refine jx_getr (pc := 66) rfl ho ?_
    refine jx_next (pc := 69) (pc' := 70) rfl rfl ?_
    refine jx_next (pc := 70) (pc' := 71) rfl rfl ?_
    obtain ⟨hg9, K⟩ := jguard K
    refine jx_iald (pc := 71) rfl (jtR hT ho (k := 41) (c := 20) rfl) hg9 ?_
    refine jx_next (pc := 72) (pc' := 73) rfl rfl ?_
    refine jx_next (pc := 73) (pc' := 74) rfl rfl ?_
    refine jx_next (pc := 74) (pc' := 75) rfl rfl ?_
    refine jx_next (pc := 75) (pc' := 76) rfl rfl ?_
    obtain ⟨hg10, K⟩ := jguard K
    refine jx_iast (pc := 76) rfl (jtR hT ho (k := 41) (c := 20) rfl) hg10 ?_
    refine jx_next (pc := 77) (pc' := 78) rfl rfl ?_
    refine jx_getr (pc := 78) rfl ho ?_
    refine jx_next (pc := 81) (pc' := 82) rfl rfl ?_
    refine jx_next (pc := 82) (pc' := 83) rfl rfl ?_
    obtain ⟨hg11, K⟩ := jguard K
    refine jx_iald (pc := 83) rfl (jtR hT ho (k := 36) (c := 20) rfl) hg11 ?_
    refine jx_next (pc := 84) (pc' := 85) rfl rfl ?_
    refine jx_next (pc := 85) (pc' := 86) rfl rfl ?_
    obtain ⟨hg12, K⟩ := jguard K
    refine jx_iast (pc := 86) rfl (jtR hT ho (k := 36) (c := 20) rfl) hg12 ?_
    obtain rfl := Option.some.inj K
    exact jx_ret (pc := 87) rfl rfl HQ
  · replace K := (if_neg hc8).symm.trans K
    obtain rfl := Option.some.inj K
    exact jx_ret (pc := 64) rfl rfl HQ
noncomputable def fM_hearTold_j48 (R : jR) (o : Nat) (v2 : Int32) (v3 : Int32) (h : jH) : Option jH :=
  fM_hearTold_j57 R o v2 v3 (fM_fail R o 3 (h.1 o 35) h)
theorem kM_hearTold_j48 {X : jX} {d : Nat} {R : jR} {Q : Option Value → jS → Prop} {o : Nat} {v2 : Int32} {v3 : Int32} {h : jH} (hT : jTy R) (ho : jcl 176 o = 12) (hd : 5 ≤ (d + 1)) {z : jH} (K : fM_hearTold_j48 R o v2 v3 h = some z) (HQ : Q none (176, R, z)) :
    jEx X (d + 1) jc_211 48 [some (.ref o), none, some (.int v2), some (.int v3)] [] (176, R, h) Q := by
  unfold fM_hearTold_j48 at K
  refine jx_next (pc := 48) (pc' := 49) rfl rfl ?_
  refine jx_next (pc := 49) (pc' := 50) rfl rfl ?_
  refine jx_next (pc := 50) (pc' := 51) rfl rfl ?_
  refine jx_geti (pc := 51) rfl ho ?_
  refine jx_callv (pc := 54) (o := o) (rest := []) rfl ⟨by decide, by decide⟩ rfl ho (Nat.le_of_ble_eq_true rfl) ?_
  refine kM_fail hT ho (by omega) rfl ?_
  refine jx_le (pl' := [some (.ref o), none, some (.int v2), some (.int v3)]) (jle_v (jle_n (jle_v (jle_v jle_nil)))) ?_
  exact kM_hearTold_j57 hT ho hd K HQ
/-- AndGuestModel.hearTold(I)V -/
noncomputable def fM_hearTold (R : jR) (o : Nat) (v1 : Int32) (h : jH) : Option jH :=
  (Option.bind (fM_isFull R o 2 24 v1 h) (fun (z1 : Int32 × jH) =>
  (if z1.1 = 0 then
  (Option.bind (fM_guestHere R o z1.2) (fun (z3 : Int32 × jH) =>
  (Option.bind (fM_guestHere R o z3.2) (fun (z4 : Int32 × jH) =>
  (if (z4.2.1 o 5) = 0 then
  (if z3.1 = z4.1 then
  fM_hearTold_j48 R o z3.1 z4.1 z4.2
  else
  (if jin z3.1 (jsh (R o 41)).2 then
  (if (((z4.2.1 (R o 41) z3.1.toNatClampNeg) >>> (z4.1 &&& 31)) &&& 1) = 1 then
  fM_hearTold_j48 R o z3.1 z4.1 z4.2
  else
  fM_hearTold_j57 R o z3.1 z4.1 z4.2)
  else none))
  else
  fM_hearTold_j57 R o z3.1 z4.1 z4.2)))))
  else
  some z1.2)))
theorem kM_hearTold {X : jX} {d : Nat} {R : jR} {Q : Option Value → jS → Prop} {o : Nat} {v1 : Int32} {h : jH} (hT : jTy R) (ho : jcl 176 o = 12) (hd : 5 ≤ d) {z : jH} (K : fM_hearTold R o v1 h = some z) (HQ : Q none (176, R, z)) :
    jCa X d 211 [.ref o, .int v1] (176, R, h) Q := by
  obtain ⟨d, rfl⟩ : ∃ d9, d = d9 + 1 := ⟨d - 1, by omega⟩
  unfold fM_hearTold at K
  refine jCa_of (es := jc_211) (pl := [some (.ref o), some (.int v1), none, none]) (M := jm_211) rfl rfl rfl rfl ?_
  refine jx_next (pc := 0) (pc' := 1) rfl rfl ?_
  refine jx_next (pc := 1) (pc' := 2) rfl rfl ?_
  refine jx_next (pc := 2) (pc' := 4) rfl rfl ?_
  refine jx_next (pc := 4) (pc' := 5) rfl rfl ?_
  refine jx_callv (pc := 5) (o := o) (rest := []) rfl ⟨by decide, by decide⟩ rfl ho (Nat.le_of_ble_eq_true rfl) ?_
  obtain ⟨z1, hz_z1, K⟩ := Option.bind_eq_some_iff.mp K
  refine kM_isFull hT ho (by omega) hz_z1 ?_
  refine jx_ifeq (pc := 8) rfl (fun hc2 => ?_) (fun hc2 => ?_)
  · replace K := (if_pos hc2).symm.trans K
    refine jx_next (pc := 12) (pc' := 13) rfl rfl ?_
    refine jx_callv (pc := 13) (o := o) (rest := []) rfl ⟨by decide, by decide⟩ rfl ho (Nat.le_of_ble_eq_true rfl) ?_
    obtain ⟨z3, hz_z3, K⟩ := Option.bind_eq_some_iff.mp K
    refine kM_guestHere hT ho (by omega) hz_z3 ?_
    refine jx_stin (pc := 16) (p2 := [some (.ref o), some (.int v1), some (.int z3.1), none]) rfl (jlt rfl) rfl ?_
    refine jx_next (pc := 17) (pc' := 18) rfl rfl ?_
    refine jx_callv (pc := 18) (o := o) (rest := []) rfl ⟨by decide, by decide⟩ rfl ho (Nat.le_of_ble_eq_true rfl) ?_
    obtain ⟨z4, hz_z4, K⟩ := Option.bind_eq_some_iff.mp K
    refine kM_guestHere hT ho (by omega) hz_z4 ?_
    refine jx_stin (pc := 21) (p2 := [some (.ref o), some (.int v1), some (.int z3.1), some (.int z4.1)]) rfl (jlt rfl) rfl ?_
    refine jx_next (pc := 22) (pc' := 23) rfl rfl ?_
    refine jx_geti (pc := 23) rfl ho ?_
    refine jx_ifne (pc := 26) rfl (fun hc5 => ?_) (fun hc5 => ?_)
    · replace K := (if_pos hc5).symm.trans K
      refine jx_next (pc := 29) (pc' := 30) rfl rfl ?_
      refine jx_next (pc := 30) (pc' := 31) rfl rfl ?_
      refine jx_iceq (pc := 31) rfl (fun hc6 => ?_) (fun hc6 => ?_)
      · replace K := (if_pos hc6).symm.trans K
        refine jx_le (pl' := [some (.ref o), none, some (.int z3.1), some (.int z4.1)]) (jle_v (jle_n (jle_v (jle_v jle_nil)))) ?_
        exact kM_hearTold_j48 hT ho hd K HQ
      · replace K := (if_neg hc6).symm.trans K
        refine jx_next (pc := 34) (pc' := 35) rfl rfl ?_
        refine jx_getr (pc := 35) rfl ho ?_
        refine jx_next (pc := 38) (pc' := 39) rfl rfl ?_
        obtain ⟨hg13, K⟩ := jguard K
        refine jx_iald (pc := 39) rfl (jtR hT ho (k := 41) (c := 20) rfl) hg13 ?_
        refine jx_next (pc := 40) (pc' := 41) rfl rfl ?_
        refine jx_next (pc := 41) (pc' := 42) rfl rfl ?_
        refine jx_next (pc := 42) (pc' := 43) rfl rfl ?_
        refine jx_next (pc := 43) (pc' := 44) rfl rfl ?_
        refine jx_next (pc := 44) (pc' := 45) rfl rfl ?_
        refine jx_icne (pc := 45) rfl (fun hc14 => ?_) (fun hc14 => ?_)
        · replace K := (if_pos hc14).symm.trans K
          refine jx_le (pl' := [some (.ref o), none, some (.int z3.1), some (.int z4.1)]) (jle_v (jle_n (jle_v (jle_v jle_nil)))) ?_
          exact kM_hearTold_j48 hT ho hd K HQ
        · replace K := (if_neg hc14).symm.trans K
          refine jx_le (pl' := [some (.ref o), none, some (.int z3.1), some (.int z4.1)]) (jle_v (jle_n (jle_v (jle_v jle_nil)))) ?_
          exact kM_hearTold_j57 hT ho hd K HQ
    · replace K := (if_neg hc5).symm.trans K
      refine jx_le (pl' := [some (.ref o), none, some (.int z3.1), some (.int z4.1)]) (jle_v (jle_n (jle_v (jle_v jle_nil)))) ?_
      exact kM_hearTold_j57 hT ho hd K HQ
  · replace K := (if_neg hc2).symm.trans K
    obtain rfl := Option.some.inj K
    exact jx_ret (pc := 11) rfl rfl HQ
/-- AndGuestModel.qWordHere()I -/
noncomputable def fM_qWordHere (R : jR) (o : Nat) (h : jH) : Option (Int32 × jH) :=
  (Option.bind (fM_isHere R o (R o 71) h) (fun (z1 : Int32 × jH) =>
  (if z1.1 = 0 then
  (Option.bind (fM_isHere R o (R o 72) z1.2) (fun (z3 : Int32 × jH) =>
  (if z3.1 = 0 then
  (Option.bind (fM_isHere R o (R o 73) z3.2) (fun (z5 : Int32 × jH) =>
  (if z5.1 = 0 then
  (Option.bind (fM_isHere R o (R o 74) z5.2) (fun (z7 : Int32 × jH) =>
  (if z7.1 = 0 then
  (Option.bind (fM_isHere R o (R o 75) z7.2) (fun (z9 : Int32 × jH) =>
  (if z9.1 = 0 then
  (Option.bind (fM_isHere R o (R o 76) z9.2) (fun (z11 : Int32 × jH) =>
  (if z11.1 = 0 then
  (Option.bind (fM_isHere R o (R o 77) z11.2) (fun (z13 : Int32 × jH) =>
  (if z13.1 = 0 then
  (Option.bind (fM_isHere R o (R o 78) z13.2) (fun (z15 : Int32 × jH) =>
  (if z15.1 = 0 then
  some ((-1), z15.2)
  else
  some (7, z15.2))))
  else
  some (6, z13.2))))
  else
  some (5, z11.2))))
  else
  some (4, z9.2))))
  else
  some (3, z7.2))))
  else
  some (2, z5.2))))
  else
  some (1, z3.2))))
  else
  some (0, z1.2))))
theorem kM_qWordHere {X : jX} {d : Nat} {R : jR} {Q : Option Value → jS → Prop} {o : Nat} {h : jH} (hT : jTy R) (ho : jcl 176 o = 12) (hd : 2 ≤ d) {z : Int32 × jH} (K : fM_qWordHere R o h = some z) (HQ : Q (some (.int z.1)) (176, R, z.2)) :
    jCa X d 216 [.ref o] (176, R, h) Q := by
  obtain ⟨d, rfl⟩ : ∃ d9, d = d9 + 1 := ⟨d - 1, by omega⟩
  unfold fM_qWordHere at K
  refine jCa_of (es := jc_216) (pl := [some (.ref o)]) (M := jm_216) rfl rfl rfl rfl ?_
  refine jx_next (pc := 0) (pc' := 1) rfl rfl ?_
  refine jx_next (pc := 1) (pc' := 2) rfl rfl ?_
  refine jx_getr (pc := 2) rfl ho ?_
  refine jx_callv (pc := 5) (o := o) (rest := []) rfl ⟨by decide, by decide⟩ rfl ho (Nat.le_of_ble_eq_true rfl) ?_
  obtain ⟨z1, hz_z1, K⟩ := Option.bind_eq_some_iff.mp K
  refine kM_isHere hT ho (jtR hT ho (k := 71) (c := 22) rfl) (by omega) hz_z1 ?_
  refine jx_ifeq (pc := 8) rfl (fun hc2 => ?_) (fun hc2 => ?_)
  · replace K := (if_pos hc2).symm.trans K
    refine jx_next (pc := 13) (pc' := 14) rfl rfl ?_
    refine jx_next (pc := 14) (pc' := 15) rfl rfl ?_
    refine jx_getr (pc := 15) rfl ho ?_
    refine jx_callv (pc := 18) (o := o) (rest := []) rfl ⟨by decide, by decide⟩ rfl ho (Nat.le_of_ble_eq_true rfl) ?_
    obtain ⟨z3, hz_z3, K⟩ := Option.bind_eq_some_iff.mp K
    refine kM_isHere hT ho (jtR hT ho (k := 72) (c := 22) rfl) (by omega) hz_z3 ?_
    refine jx_ifeq (pc := 21) rfl (fun hc4 => ?_) (fun hc4 => ?_)
    · replace K := (if_pos hc4).symm.trans K
      refine jx_next (pc := 26) (pc' := 27) rfl rfl ?_
      refine jx_next (pc := 27) (pc' := 28) rfl rfl ?_
      refine jx_getr (pc := 28) rfl ho ?_
      refine jx_callv (pc := 31) (o := o) (rest := []) rfl ⟨by decide, by decide⟩ rfl ho (Nat.le_of_ble_eq_true rfl) ?_
      obtain ⟨z5, hz_z5, K⟩ := Option.bind_eq_some_iff.mp K
      refine kM_isHere hT ho (jtR hT ho (k := 73) (c := 22) rfl) (by omega) hz_z5 ?_
      refine jx_ifeq (pc := 34) rfl (fun hc6 => ?_) (fun hc6 => ?_)
      · replace K := (if_pos hc6).symm.trans K
        refine jx_next (pc := 39) (pc' := 40) rfl rfl ?_
        refine jx_next (pc := 40) (pc' := 41) rfl rfl ?_
        refine jx_getr (pc := 41) rfl ho ?_
        refine jx_callv (pc := 44) (o := o) (rest := []) rfl ⟨by decide, by decide⟩ rfl ho (Nat.le_of_ble_eq_true rfl) ?_
        obtain ⟨z7, hz_z7, K⟩ := Option.bind_eq_some_iff.mp K
        refine kM_isHere hT ho (jtR hT ho (k := 74) (c := 22) rfl) (by omega) hz_z7 ?_
        refine jx_ifeq (pc := 47) rfl (fun hc8 => ?_) (fun hc8 => ?_)
        · replace K := (if_pos hc8).symm.trans K
          refine jx_next (pc := 52) (pc' := 53) rfl rfl ?_
          refine jx_next (pc := 53) (pc' := 54) rfl rfl ?_
          refine jx_getr (pc := 54) rfl ho ?_
          refine jx_callv (pc := 57) (o := o) (rest := []) rfl ⟨by decide, by decide⟩ rfl ho (Nat.le_of_ble_eq_true rfl) ?_
          obtain ⟨z9, hz_z9, K⟩ := Option.bind_eq_some_iff.mp K
          refine kM_isHere hT ho (jtR hT ho (k := 75) (c := 22) rfl) (by omega) hz_z9 ?_
          refine jx_ifeq (pc := 60) rfl (fun hc10 => ?_) (fun hc10 => ?_)
          · replace K := (if_pos hc10).symm.trans K
            refine jx_next (pc := 65) (pc' := 66) rfl rfl ?_
            refine jx_next (pc := 66) (pc' := 67) rfl rfl ?_
            refine jx_getr (pc := 67) rfl ho ?_
            refine jx_callv (pc := 70) (o := o) (rest := []) rfl ⟨by decide, by decide⟩ rfl ho (Nat.le_of_ble_eq_true rfl) ?_
            obtain ⟨z11, hz_z11, K⟩ := Option.bind_eq_some_iff.mp K
            refine kM_isHere hT ho (jtR hT ho (k := 76) (c := 22) rfl) (by omega) hz_z11 ?_
            refine jx_ifeq (pc := 73) rfl (fun hc12 => ?_) (fun hc12 => ?_)
            · replace K := (if_pos hc12).symm.trans K
              refine jx_next (pc := 78) (pc' := 79) rfl rfl ?_
              refine jx_next (pc := 79) (pc' := 80) rfl rfl ?_
              refine jx_getr (pc := 80) rfl ho ?_
              refine jx_callv (pc := 83) (o := o) (rest := []) rfl ⟨by decide, by decide⟩ rfl ho (Nat.le_of_ble_eq_true rfl) ?_
              obtain ⟨z13, hz_z13, K⟩ := Option.bind_eq_some_iff.mp K
              refine kM_isHere hT ho (jtR hT ho (k := 77) (c := 22) rfl) (by omega) hz_z13 ?_
              refine jx_ifeq (pc := 86) rfl (fun hc14 => ?_) (fun hc14 => ?_)
              · replace K := (if_pos hc14).symm.trans K
                refine jx_next (pc := 92) (pc' := 93) rfl rfl ?_
                refine jx_next (pc := 93) (pc' := 94) rfl rfl ?_
                refine jx_getr (pc := 94) rfl ho ?_
                refine jx_callv (pc := 97) (o := o) (rest := []) rfl ⟨by decide, by decide⟩ rfl ho (Nat.le_of_ble_eq_true rfl) ?_
                obtain ⟨z15, hz_z15, K⟩ := Option.bind_eq_some_iff.mp K
                refine kM_isHere hT ho (jtR hT ho (k := 78) (c := 22) rfl) (by omega) hz_z15 ?_
                refine jx_ifeq (pc := 100) rfl (fun hc16 => ?_) (fun hc16 => ?_)
                · replace K := (if_pos hc16).symm.trans K
                  refine jx_next (pc := 106) (pc' := 107) rfl rfl ?_
                  obtain rfl := Option.some.inj K
                  exact jx_iret (pc := 107) rfl HQ
                · replace K := (if_neg hc16).symm.trans K
                  refine jx_next (pc := 103) (pc' := 105) rfl rfl ?_
                  obtain rfl := Option.some.inj K
                  exact jx_iret (pc := 105) rfl HQ
              · replace K := (if_neg hc14).symm.trans K
                refine jx_next (pc := 89) (pc' := 91) rfl rfl ?_
                obtain rfl := Option.some.inj K
                exact jx_iret (pc := 91) rfl HQ
            · replace K := (if_neg hc12).symm.trans K
              refine jx_next (pc := 76) (pc' := 77) rfl rfl ?_
              obtain rfl := Option.some.inj K
              exact jx_iret (pc := 77) rfl HQ
          · replace K := (if_neg hc10).symm.trans K
            refine jx_next (pc := 63) (pc' := 64) rfl rfl ?_
            obtain rfl := Option.some.inj K
            exact jx_iret (pc := 64) rfl HQ
        · replace K := (if_neg hc8).symm.trans K
          refine jx_next (pc := 50) (pc' := 51) rfl rfl ?_
          obtain rfl := Option.some.inj K
          exact jx_iret (pc := 51) rfl HQ
      · replace K := (if_neg hc6).symm.trans K
        refine jx_next (pc := 37) (pc' := 38) rfl rfl ?_
        obtain rfl := Option.some.inj K
        exact jx_iret (pc := 38) rfl HQ
    · replace K := (if_neg hc4).symm.trans K
      refine jx_next (pc := 24) (pc' := 25) rfl rfl ?_
      obtain rfl := Option.some.inj K
      exact jx_iret (pc := 25) rfl HQ
  · replace K := (if_neg hc2).symm.trans K
    refine jx_next (pc := 11) (pc' := 12) rfl rfl ?_
    obtain rfl := Option.some.inj K
    exact jx_iret (pc := 12) rfl HQ
/-- AndGuestModel.isAllowed(I)Z -/
noncomputable def fM_isAllowed (R : jR) (o : Nat) (v1 : Int32) (h : jH) : Int32 :=
  (if (h.1 o 49) = 0 then
  (1 : Int32)
  else
  (if v1 < 4 then
  (1 : Int32)
  else
  (0 : Int32)))
theorem kM_isAllowed {X : jX} {d : Nat} {R : jR} {Q : Option Value → jS → Prop} {o : Nat} {v1 : Int32} {h : jH} (hT : jTy R) (ho : jcl 176 o = 12) (hd : 0 ≤ d) {z : Int32} (K : fM_isAllowed R o v1 h = z) (HQ : Q (some (.int z)) (176, R, h)) :
    jCa X d 217 [.ref o, .int v1] (176, R, h) Q := by
  unfold fM_isAllowed at K
  refine jCa_of (es := jc_217) (pl := [some (.ref o), some (.int v1)]) (M := jm_217) rfl rfl rfl rfl ?_
  refine jx_next (pc := 0) (pc' := 1) rfl rfl ?_
  refine jx_getz (pc := 1) rfl ho ?_
  refine jx_ifeq (pc := 4) rfl (fun hc1 => ?_) (fun hc1 => ?_)
  · replace K := (if_pos hc1).symm.trans K
    refine jx_next (pc := 12) (pc' := 13) rfl rfl ?_
    refine jx_next (pc := 13) (pc' := 17) rfl rfl ?_
    obtain rfl := K
    exact jx_zret (pc := 17) rfl (Or.inr rfl) HQ
  · replace K := (if_neg hc1).symm.trans K
    refine jx_next (pc := 7) (pc' := 8) rfl rfl ?_
    refine jx_next (pc := 8) (pc' := 9) rfl rfl ?_
    refine jx_icge (pc := 9) rfl (fun hc2 => ?_) (fun hc2 => ?_)
    · replace K := (if_pos hc2).symm.trans K
      refine jx_next (pc := 12) (pc' := 13) rfl rfl ?_
      refine jx_next (pc := 13) (pc' := 17) rfl rfl ?_
      obtain rfl := K
      exact jx_zret (pc := 17) rfl (Or.inr rfl) HQ
    · replace K := (if_neg hc2).symm.trans K
      refine jx_next (pc := 16) (pc' := 17) rfl rfl ?_
      obtain rfl := K
      exact jx_zret (pc := 17) rfl (Or.inl rfl) HQ
/-- AndGuestModel.qWordOf(II)I -/
noncomputable def fM_qWordOf (R : jR) (o : Nat) (v1 : Int32) (v2 : Int32) (h : jH) : Option (Int32 × jH) :=
  (Option.bind (fM_qWordHere R o h) (fun (z1 : Int32 × jH) =>
  (if z1.1 < v1 then
  some ((-1), z1.2)
  else
  (if z1.1 < v2 then
  (if (fM_isAllowed R o z1.1 z1.2) = 0 then
  some ((-1), z1.2)
  else
  some (z1.1, z1.2))
  else
  some ((-1), z1.2)))))
theorem kM_qWordOf {X : jX} {d : Nat} {R : jR} {Q : Option Value → jS → Prop} {o : Nat} {v1 : Int32} {v2 : Int32} {h : jH} (hT : jTy R) (ho : jcl 176 o = 12) (hd : 3 ≤ d) {z : Int32 × jH} (K : fM_qWordOf R o v1 v2 h = some z) (HQ : Q (some (.int z.1)) (176, R, z.2)) :
    jCa X d 215 [.ref o, .int v1, .int v2] (176, R, h) Q := by
  obtain ⟨d, rfl⟩ : ∃ d9, d = d9 + 1 := ⟨d - 1, by omega⟩
  unfold fM_qWordOf at K
  refine jCa_of (es := jc_215) (pl := [some (.ref o), some (.int v1), some (.int v2), none]) (M := jm_215) rfl rfl rfl rfl ?_
  refine jx_next (pc := 0) (pc' := 1) rfl rfl ?_
  refine jx_callv (pc := 1) (o := o) (rest := []) rfl ⟨by decide, by decide⟩ rfl ho (Nat.le_of_ble_eq_true rfl) ?_
  obtain ⟨z1, hz_z1, K⟩ := Option.bind_eq_some_iff.mp K
  refine kM_qWordHere hT ho (by omega) hz_z1 ?_
  refine jx_stin (pc := 4) (p2 := [some (.ref o), some (.int v1), some (.int v2), some (.int z1.1)]) rfl (jlt rfl) rfl ?_
  refine jx_next (pc := 5) (pc' := 6) rfl rfl ?_
  refine jx_next (pc := 6) (pc' := 7) rfl rfl ?_
  refine jx_iclt (pc := 7) rfl (fun hc2 => ?_) (fun hc2 => ?_)
  · replace K := (if_pos hc2).symm.trans K
    refine jx_next (pc := 27) (pc' := 28) rfl rfl ?_
    obtain rfl := Option.some.inj K
    exact jx_iret (pc := 28) rfl HQ
  · replace K := (if_neg hc2).symm.trans K
    refine jx_next (pc := 10) (pc' := 11) rfl rfl ?_
    refine jx_next (pc := 11) (pc' := 12) rfl rfl ?_
    refine jx_icge (pc := 12) rfl (fun hc3 => ?_) (fun hc3 => ?_)
    · replace K := (if_pos hc3).symm.trans K
      refine jx_next (pc := 15) (pc' := 16) rfl rfl ?_
      refine jx_next (pc := 16) (pc' := 17) rfl rfl ?_
      refine jx_callv (pc := 17) (o := o) (rest := []) rfl ⟨by decide, by decide⟩ rfl ho (Nat.le_of_ble_eq_true rfl) ?_
      refine kM_isAllowed hT ho (by omega) rfl ?_
      refine jx_ifeq (pc := 20) rfl (fun hc4 => ?_) (fun hc4 => ?_)
      · replace K := (if_pos hc4).symm.trans K
        refine jx_next (pc := 27) (pc' := 28) rfl rfl ?_
        obtain rfl := Option.some.inj K
        exact jx_iret (pc := 28) rfl HQ
      · replace K := (if_neg hc4).symm.trans K
        refine jx_next (pc := 23) (pc' := 24) rfl rfl ?_
        refine jx_next (pc := 24) (pc' := 28) rfl rfl ?_
        obtain rfl := Option.some.inj K
        exact jx_iret (pc := 28) rfl HQ
    · replace K := (if_neg hc3).symm.trans K
      refine jx_next (pc := 27) (pc' := 28) rfl rfl ?_
      obtain rfl := Option.some.inj K
      exact jx_iret (pc := 28) rfl HQ
/-- AndGuestModel.qOpens(II)V -/
noncomputable def fM_qOpens (R : jR) (o : Nat) (v1 : Int32) (v2 : Int32) (h : jH) : Option jH :=
  (if (h.1 o 5) = 0 then
  (if (h.1 o 83) = 6 then
  some (fM_fail R o 4 v2 h)
  else
  (if jin ((jhI h o 83 ((h.1 o 83) + 1)).1 o 82) (jsh (R o 81)).2 then
  some (jhI (jhI (jhI h o 83 ((h.1 o 83) + 1)) (R o 81) ((jhI h o 83 ((h.1 o 83) + 1)).1 o 82).toNatClampNeg v1) o 82 (((jhI (jhI h o 83 ((h.1 o 83) + 1)) (R o 81) ((jhI h o 83 ((h.1 o 83) + 1)).1 o 82).toNatClampNeg v1).1 o 82) + 1))
  else none))
  else
  some h)
theorem kM_qOpens {X : jX} {d : Nat} {R : jR} {Q : Option Value → jS → Prop} {o : Nat} {v1 : Int32} {v2 : Int32} {h : jH} (hT : jTy R) (ho : jcl 176 o = 12) (hd : 1 ≤ d) {z : jH} (K : fM_qOpens R o v1 v2 h = some z) (HQ : Q none (176, R, z)) :
    jCa X d 218 [.ref o, .int v1, .int v2] (176, R, h) Q := by
  obtain ⟨d, rfl⟩ : ∃ d9, d = d9 + 1 := ⟨d - 1, by omega⟩
  unfold fM_qOpens at K
  refine jCa_of (es := jc_218) (pl := [some (.ref o), some (.int v1), some (.int v2)]) (M := jm_218) rfl rfl rfl rfl ?_
  refine jx_next (pc := 0) (pc' := 1) rfl rfl ?_
  refine jx_geti (pc := 1) rfl ho ?_
  refine jx_ifeq (pc := 4) rfl (fun hc1 => ?_) (fun hc1 => ?_)
  · replace K := (if_pos hc1).symm.trans K
    refine jx_next (pc := 8) (pc' := 9) rfl rfl ?_
    refine jx_geti (pc := 9) rfl ho ?_
    refine jx_next (pc := 12) (pc' := 14) rfl rfl ?_
    refine jx_icne (pc := 14) rfl (fun hc2 => ?_) (fun hc2 => ?_)
    · replace K := (if_pos hc2).symm.trans K
      refine jx_next (pc := 17) (pc' := 18) rfl rfl ?_
      refine jx_next (pc := 18) (pc' := 19) rfl rfl ?_
      refine jx_next (pc := 19) (pc' := 20) rfl rfl ?_
      refine jx_callv (pc := 20) (o := o) (rest := []) rfl ⟨by decide, by decide⟩ rfl ho (Nat.le_of_ble_eq_true rfl) ?_
      refine kM_fail hT ho (by omega) rfl ?_
      obtain rfl := Option.some.inj K
      exact jx_ret (pc := 23) rfl rfl HQ
    · replace K := (if_neg hc2).symm.trans K
      refine jx_next (pc := 24) (pc' := 25) rfl rfl ?_
      refine jx_next (pc := 25) (pc' := 26) rfl rfl ?_
      refine jx_geti (pc := 26) rfl ho ?_
      refine jx_next (pc := 29) (pc' := 30) rfl rfl ?_
      refine jx_next (pc := 30) (pc' := 31) rfl rfl ?_
      refine jx_puti (pc := 31) rfl ho ?_
      refine jx_next (pc := 34) (pc' := 35) rfl rfl ?_
      refine jx_getr (pc := 35) rfl ho ?_
      refine jx_next (pc := 38) (pc' := 39) rfl rfl ?_
      refine jx_geti (pc := 39) rfl ho ?_
      refine jx_next (pc := 42) (pc' := 43) rfl rfl ?_
      obtain ⟨hg4, K⟩ := jguard K
      refine jx_iast (pc := 43) rfl (jtR hT ho (k := 81) (c := 20) rfl) hg4 ?_
      refine jx_next (pc := 44) (pc' := 45) rfl rfl ?_
      refine jx_next (pc := 45) (pc' := 46) rfl rfl ?_
      refine jx_geti (pc := 46) rfl ho ?_
      refine jx_next (pc := 49) (pc' := 50) rfl rfl ?_
      refine jx_next (pc := 50) (pc' := 51) rfl rfl ?_
      refine jx_puti (pc := 51) rfl ho ?_
      obtain rfl := Option.some.inj K
      exact jx_ret (pc := 54) rfl rfl HQ
  · replace K := (if_neg hc1).symm.trans K
    obtain rfl := Option.some.inj K
    exact jx_ret (pc := 7) rfl rfl HQ
/-- AndGuestModel.qAsksWord(I)V -/
noncomputable def fM_qAsksWord (R : jR) (o : Nat) (v1 : Int32) (h : jH) : Option jH :=
  (if v1 = 0 then
  (Option.bind (fM_asks R o (R o 71) h) (fun (z1 : jH) =>
  some z1))
  else
  (if v1 = 1 then
  (Option.bind (fM_asks R o (R o 72) h) (fun (z2 : jH) =>
  some z2))
  else
  (if v1 = 2 then
  (Option.bind (fM_asks R o (R o 73) h) (fun (z3 : jH) =>
  some z3))
  else
  (if v1 = 3 then
  (Option.bind (fM_asks R o (R o 74) h) (fun (z4 : jH) =>
  some z4))
  else
  (if v1 = 4 then
  (Option.bind (fM_asks R o (R o 75) h) (fun (z5 : jH) =>
  some z5))
  else
  (if v1 = 5 then
  (Option.bind (fM_asks R o (R o 76) h) (fun (z6 : jH) =>
  some z6))
  else
  (if v1 = 6 then
  (Option.bind (fM_asks R o (R o 77) h) (fun (z7 : jH) =>
  some z7))
  else
  (Option.bind (fM_asks R o (R o 78) h) (fun (z8 : jH) =>
  some z8)))))))))
theorem kM_qAsksWord {X : jX} {d : Nat} {R : jR} {Q : Option Value → jS → Prop} {o : Nat} {v1 : Int32} {h : jH} (hT : jTy R) (ho : jcl 176 o = 12) (hd : 4 ≤ d) {z : jH} (K : fM_qAsksWord R o v1 h = some z) (HQ : Q none (176, R, z)) :
    jCa X d 219 [.ref o, .int v1] (176, R, h) Q := by
  obtain ⟨d, rfl⟩ : ∃ d9, d = d9 + 1 := ⟨d - 1, by omega⟩
  unfold fM_qAsksWord at K
  refine jCa_of (es := jc_219) (pl := [some (.ref o), some (.int v1)]) (M := jm_219) rfl rfl rfl rfl ?_
  refine jx_next (pc := 0) (pc' := 1) rfl rfl ?_
  refine jx_tsw (pc := 1) rfl ?_
  refine jx_sw1 (fun hc15 => ?_) (fun hc15 => ?_)
  · replace K := (if_pos hc15).symm.trans K
    refine jx_next (pc := 44) (pc' := 45) rfl rfl ?_
    refine jx_next (pc := 45) (pc' := 46) rfl rfl ?_
    refine jx_getr (pc := 46) rfl ho ?_
    refine jx_callv (pc := 49) (o := o) (rest := []) rfl ⟨by decide, by decide⟩ rfl ho (Nat.le_of_ble_eq_true rfl) ?_
    obtain ⟨z1, hz_z1, K⟩ := Option.bind_eq_some_iff.mp K
    refine kM_asks hT ho (jtR hT ho (k := 71) (c := 22) rfl) (by omega) hz_z1 ?_
    refine jx_next (pc := 52) (pc' := 129) rfl rfl ?_
    obtain rfl := Option.some.inj K
    exact jx_ret (pc := 129) rfl rfl HQ
  · replace K := (if_neg hc15).symm.trans K
    refine jx_sw1 (fun hc14 => ?_) (fun hc14 => ?_)
    · replace K := (if_pos hc14).symm.trans K
      refine jx_next (pc := 55) (pc' := 56) rfl rfl ?_
      refine jx_next (pc := 56) (pc' := 57) rfl rfl ?_
      refine jx_getr (pc := 57) rfl ho ?_
      refine jx_callv (pc := 60) (o := o) (rest := []) rfl ⟨by decide, by decide⟩ rfl ho (Nat.le_of_ble_eq_true rfl) ?_
      obtain ⟨z2, hz_z2, K⟩ := Option.bind_eq_some_iff.mp K
      refine kM_asks hT ho (jtR hT ho (k := 72) (c := 22) rfl) (by omega) hz_z2 ?_
      refine jx_next (pc := 63) (pc' := 129) rfl rfl ?_
      obtain rfl := Option.some.inj K
      exact jx_ret (pc := 129) rfl rfl HQ
    · replace K := (if_neg hc14).symm.trans K
      refine jx_sw1 (fun hc13 => ?_) (fun hc13 => ?_)
      · replace K := (if_pos hc13).symm.trans K
        refine jx_next (pc := 66) (pc' := 67) rfl rfl ?_
        refine jx_next (pc := 67) (pc' := 68) rfl rfl ?_
        refine jx_getr (pc := 68) rfl ho ?_
        refine jx_callv (pc := 71) (o := o) (rest := []) rfl ⟨by decide, by decide⟩ rfl ho (Nat.le_of_ble_eq_true rfl) ?_
        obtain ⟨z3, hz_z3, K⟩ := Option.bind_eq_some_iff.mp K
        refine kM_asks hT ho (jtR hT ho (k := 73) (c := 22) rfl) (by omega) hz_z3 ?_
        refine jx_next (pc := 74) (pc' := 129) rfl rfl ?_
        obtain rfl := Option.some.inj K
        exact jx_ret (pc := 129) rfl rfl HQ
      · replace K := (if_neg hc13).symm.trans K
        refine jx_sw1 (fun hc12 => ?_) (fun hc12 => ?_)
        · replace K := (if_pos hc12).symm.trans K
          refine jx_next (pc := 77) (pc' := 78) rfl rfl ?_
          refine jx_next (pc := 78) (pc' := 79) rfl rfl ?_
          refine jx_getr (pc := 79) rfl ho ?_
          refine jx_callv (pc := 82) (o := o) (rest := []) rfl ⟨by decide, by decide⟩ rfl ho (Nat.le_of_ble_eq_true rfl) ?_
          obtain ⟨z4, hz_z4, K⟩ := Option.bind_eq_some_iff.mp K
          refine kM_asks hT ho (jtR hT ho (k := 74) (c := 22) rfl) (by omega) hz_z4 ?_
          refine jx_next (pc := 85) (pc' := 129) rfl rfl ?_
          obtain rfl := Option.some.inj K
          exact jx_ret (pc := 129) rfl rfl HQ
        · replace K := (if_neg hc12).symm.trans K
          refine jx_sw1 (fun hc11 => ?_) (fun hc11 => ?_)
          · replace K := (if_pos hc11).symm.trans K
            refine jx_next (pc := 88) (pc' := 89) rfl rfl ?_
            refine jx_next (pc := 89) (pc' := 90) rfl rfl ?_
            refine jx_getr (pc := 90) rfl ho ?_
            refine jx_callv (pc := 93) (o := o) (rest := []) rfl ⟨by decide, by decide⟩ rfl ho (Nat.le_of_ble_eq_true rfl) ?_
            obtain ⟨z5, hz_z5, K⟩ := Option.bind_eq_some_iff.mp K
            refine kM_asks hT ho (jtR hT ho (k := 75) (c := 22) rfl) (by omega) hz_z5 ?_
            refine jx_next (pc := 96) (pc' := 129) rfl rfl ?_
            obtain rfl := Option.some.inj K
            exact jx_ret (pc := 129) rfl rfl HQ
          · replace K := (if_neg hc11).symm.trans K
            refine jx_sw1 (fun hc10 => ?_) (fun hc10 => ?_)
            · replace K := (if_pos hc10).symm.trans K
              refine jx_next (pc := 99) (pc' := 100) rfl rfl ?_
              refine jx_next (pc := 100) (pc' := 101) rfl rfl ?_
              refine jx_getr (pc := 101) rfl ho ?_
              refine jx_callv (pc := 104) (o := o) (rest := []) rfl ⟨by decide, by decide⟩ rfl ho (Nat.le_of_ble_eq_true rfl) ?_
              obtain ⟨z6, hz_z6, K⟩ := Option.bind_eq_some_iff.mp K
              refine kM_asks hT ho (jtR hT ho (k := 76) (c := 22) rfl) (by omega) hz_z6 ?_
              refine jx_next (pc := 107) (pc' := 129) rfl rfl ?_
              obtain rfl := Option.some.inj K
              exact jx_ret (pc := 129) rfl rfl HQ
            · replace K := (if_neg hc10).symm.trans K
              refine jx_sw1 (fun hc9 => ?_) (fun hc9 => ?_)
              · replace K := (if_pos hc9).symm.trans K
                refine jx_next (pc := 110) (pc' := 111) rfl rfl ?_
                refine jx_next (pc := 111) (pc' := 112) rfl rfl ?_
                refine jx_getr (pc := 112) rfl ho ?_
                refine jx_callv (pc := 115) (o := o) (rest := []) rfl ⟨by decide, by decide⟩ rfl ho (Nat.le_of_ble_eq_true rfl) ?_
                obtain ⟨z7, hz_z7, K⟩ := Option.bind_eq_some_iff.mp K
                refine kM_asks hT ho (jtR hT ho (k := 77) (c := 22) rfl) (by omega) hz_z7 ?_
                refine jx_next (pc := 118) (pc' := 129) rfl rfl ?_
                obtain rfl := Option.some.inj K
                exact jx_ret (pc := 129) rfl rfl HQ
              · replace K := (if_neg hc9).symm.trans K
                refine jx_sw0 ?_
                refine jx_next (pc := 121) (pc' := 122) rfl rfl ?_
                refine jx_next (pc := 122) (pc' := 123) rfl rfl ?_
                refine jx_getr (pc := 123) rfl ho ?_
                refine jx_callv (pc := 126) (o := o) (rest := []) rfl ⟨by decide, by decide⟩ rfl ho (Nat.le_of_ble_eq_true rfl) ?_
                obtain ⟨z8, hz_z8, K⟩ := Option.bind_eq_some_iff.mp K
                refine kM_asks hT ho (jtR hT ho (k := 78) (c := 22) rfl) (by omega) hz_z8 ?_
                obtain rfl := Option.some.inj K
                exact jx_ret (pc := 129) rfl rfl HQ
/-- AndGuestModel.qCode(I)V -/
noncomputable def fM_qCode (R : jR) (o : Nat) (v1 : Int32) (h : jH) : Option jH :=
  (if jin (h.1 o 80) (jsh (R o 79)).2 then
  some (jhI (jhI h (R o 79) (h.1 o 80).toNatClampNeg v1) o 80 (((jhI h (R o 79) (h.1 o 80).toNatClampNeg v1).1 o 80) + 1))
  else none)
theorem kM_qCode {X : jX} {d : Nat} {R : jR} {Q : Option Value → jS → Prop} {o : Nat} {v1 : Int32} {h : jH} (hT : jTy R) (ho : jcl 176 o = 12) (hd : 0 ≤ d) {z : jH} (K : fM_qCode R o v1 h = some z) (HQ : Q none (176, R, z)) :
    jCa X d 220 [.ref o, .int v1] (176, R, h) Q := by
  unfold fM_qCode at K
  refine jCa_of (es := jc_220) (pl := [some (.ref o), some (.int v1)]) (M := jm_220) rfl rfl rfl rfl ?_
  refine jx_next (pc := 0) (pc' := 1) rfl rfl ?_
  refine jx_getr (pc := 1) rfl ho ?_
  refine jx_next (pc := 4) (pc' := 5) rfl rfl ?_
  refine jx_geti (pc := 5) rfl ho ?_
  refine jx_next (pc := 8) (pc' := 9) rfl rfl ?_
  obtain ⟨hg1, K⟩ := jguard K
  refine jx_iast (pc := 9) rfl (jtR hT ho (k := 79) (c := 20) rfl) hg1 ?_
  refine jx_next (pc := 10) (pc' := 11) rfl rfl ?_
  refine jx_next (pc := 11) (pc' := 12) rfl rfl ?_
  refine jx_geti (pc := 12) rfl ho ?_
  refine jx_next (pc := 15) (pc' := 16) rfl rfl ?_
  refine jx_next (pc := 16) (pc' := 17) rfl rfl ?_
  refine jx_puti (pc := 17) rfl ho ?_
  obtain rfl := Option.some.inj K
  exact jx_ret (pc := 20) rfl rfl HQ
/-- AndGuestModel.qDrops()V -/
noncomputable def fM_qDrops (R : jR) (o : Nat) (h : jH) : Option jH :=
  (if jin ((jhI h o 82 ((h.1 o 82) - 1)).1 o 82) (jsh (R o 81)).2 then
  (Option.bind (fM_qCode R o ((jhI h o 82 ((h.1 o 82) - 1)).1 (R o 81) ((jhI h o 82 ((h.1 o 82) - 1)).1 o 82).toNatClampNeg) (jhI h o 82 ((h.1 o 82) - 1))) (fun (z2 : jH) =>
  some z2))
  else none)
theorem kM_qDrops {X : jX} {d : Nat} {R : jR} {Q : Option Value → jS → Prop} {o : Nat} {h : jH} (hT : jTy R) (ho : jcl 176 o = 12) (hd : 1 ≤ d) {z : jH} (K : fM_qDrops R o h = some z) (HQ : Q none (176, R, z)) :
    jCa X d 222 [.ref o] (176, R, h) Q := by
  obtain ⟨d, rfl⟩ : ∃ d9, d = d9 + 1 := ⟨d - 1, by omega⟩
  unfold fM_qDrops at K
  refine jCa_of (es := jc_222) (pl := [some (.ref o)]) (M := jm_222) rfl rfl rfl rfl ?_
  refine jx_next (pc := 0) (pc' := 1) rfl rfl ?_
  refine jx_next (pc := 1) (pc' := 2) rfl rfl ?_
  refine jx_geti (pc := 2) rfl ho ?_
  refine jx_next (pc := 5) (pc' := 6) rfl rfl ?_
  refine jx_next (pc := 6) (pc' := 7) rfl rfl ?_
  refine jx_puti (pc := 7) rfl ho ?_
  refine jx_next (pc := 10) (pc' := 11) rfl rfl ?_
  refine jx_next (pc := 11) (pc' := 12) rfl rfl ?_
  refine jx_getr (pc := 12) rfl ho ?_
  refine jx_next (pc := 15) (pc' := 16) rfl rfl ?_
  refine jx_geti (pc := 16) rfl ho ?_
  obtain ⟨hg1, K⟩ := jguard K
  refine jx_iald (pc := 19) rfl (jtR hT ho (k := 81) (c := 20) rfl) hg1 ?_
  refine jx_callv (pc := 20) (o := o) (rest := []) rfl ⟨by decide, by decide⟩ rfl ho (Nat.le_of_ble_eq_true rfl) ?_
  obtain ⟨z2, hz_z2, K⟩ := Option.bind_eq_some_iff.mp K
  refine kM_qCode hT ho (by omega) hz_z2 ?_
  obtain rfl := Option.some.inj K
  exact jx_ret (pc := 23) rfl rfl HQ
noncomputable def fM_qEndsPart_l0_b (R : jR) (o : Nat) (h : jH) : Option ((jH) ⊕ (jH)) :=
  (if (h.1 o 5) = 0 then
  (if (h.1 o 84) < (h.1 o 82) then
  (if jin ((h.1 o 82) - 1) (jsh (R o 81)).2 then
  (if (h.1 (R o 81) ((h.1 o 82) - 1).toNatClampNeg) < 60 then
  some (.inr h)
  else
  (Option.bind (fM_qDrops R o (jhI h o 83 ((h.1 o 83) - 1))) (fun (z5 : jH) =>
  some (.inl z5))))
  else none)
  else
  some (.inr h))
  else
  some (.inr h))
noncomputable def fM_qEndsPart_l0 (R : jR) (o : Nat) : jH → Option ((jH) ⊕ (jH)) :=
  fun (s : jH) => fM_qEndsPart_l0_b R o s
theorem kM_qEndsPart_l0_b {X : jX} {d : Nat} {R : jR} {Q : Option Value → jS → Prop} {o : Nat} {h : jH} (hT : jTy R) (ho : jcl 176 o = 12) (hd : 2 ≤ (d + 1)) {z : (jH) ⊕ (jH)} (K : fM_qEndsPart_l0_b R o h = some z) (HL : ∀ s : jH, z = .inl s → jEx X (d + 1) jc_221 0 [some (.ref o)] [] (176, R, s) Q) (HE0 : ∀ x : jH, z = .inr x → jEx X (d + 1) jc_221 51 [none] [] (176, R, x) Q) :
    jEx X (d + 1) jc_221 0 [some (.ref o)] [] (176, R, h) Q := by
  unfold fM_qEndsPart_l0_b at K
  refine jx_next (pc := 0) (pc' := 1) rfl rfl ?_
  refine jx_geti (pc := 1) rfl ho ?_
  refine jx_ifne (pc := 4) rfl (fun hc1 => ?_) (fun hc1 => ?_)
  · replace K := (if_pos hc1).symm.trans K
    refine jx_next (pc := 7) (pc' := 8) rfl rfl ?_
    refine jx_geti (pc := 8) rfl ho ?_
    refine jx_next (pc := 11) (pc' := 12) rfl rfl ?_
    refine jx_geti (pc := 12) rfl ho ?_
    refine jx_icle (pc := 15) rfl (fun hc2 => ?_) (fun hc2 => ?_)
    · replace K := (if_pos hc2).symm.trans K
      refine jx_next (pc := 18) (pc' := 19) rfl rfl ?_
      refine jx_getr (pc := 19) rfl ho ?_
      refine jx_next (pc := 22) (pc' := 23) rfl rfl ?_
      refine jx_geti (pc := 23) rfl ho ?_
      refine jx_next (pc := 26) (pc' := 27) rfl rfl ?_
      refine jx_next (pc := 27) (pc' := 28) rfl rfl ?_
      obtain ⟨hg3, K⟩ := jguard K
      refine jx_iald (pc := 28) rfl (jtR hT ho (k := 81) (c := 20) rfl) hg3 ?_
      refine jx_next (pc := 29) (pc' := 31) rfl rfl ?_
      refine jx_iclt (pc := 31) rfl (fun hc4 => ?_) (fun hc4 => ?_)
      · replace K := (if_pos hc4).symm.trans K
        obtain rfl := Option.some.inj K
        refine jx_le (pl' := [none]) (jle_n jle_nil) ?_
        exact HE0 _ rfl
      · replace K := (if_neg hc4).symm.trans K
        refine jx_next (pc := 34) (pc' := 35) rfl rfl ?_
        refine jx_next (pc := 35) (pc' := 36) rfl rfl ?_
        refine jx_geti (pc := 36) rfl ho ?_
        refine jx_next (pc := 39) (pc' := 40) rfl rfl ?_
        refine jx_next (pc := 40) (pc' := 41) rfl rfl ?_
        refine jx_puti (pc := 41) rfl ho ?_
        refine jx_next (pc := 44) (pc' := 45) rfl rfl ?_
        refine jx_callv (pc := 45) (o := o) (rest := []) rfl ⟨by decide, by decide⟩ rfl ho (Nat.le_of_ble_eq_true rfl) ?_
        obtain ⟨z5, hz_z5, K⟩ := Option.bind_eq_some_iff.mp K
        refine kM_qDrops hT ho (by omega) hz_z5 ?_
        refine jx_next (pc := 48) (pc' := 0) rfl rfl ?_
        obtain rfl := Option.some.inj K
        refine jx_le (pl' := [some (.ref o)]) (jle_v jle_nil) ?_
        exact HL _ rfl
    · replace K := (if_neg hc2).symm.trans K
      obtain rfl := Option.some.inj K
      refine jx_le (pl' := [none]) (jle_n jle_nil) ?_
      exact HE0 _ rfl
  · replace K := (if_neg hc1).symm.trans K
    obtain rfl := Option.some.inj K
    refine jx_le (pl' := [none]) (jle_n jle_nil) ?_
    exact HE0 _ rfl
theorem kM_qEndsPart_l0_w {X : jX} {d : Nat} {R : jR} {Q : Option Value → jS → Prop} {o : Nat} (hT : jTy R) (ho : jcl 176 o = 12) (hd : 2 ≤ (d + 1)) {s : jH} {x : jH} (K : jlim (fM_qEndsPart_l0 R o) s = some x) (HE : jEx X (d + 1) jc_221 51 [none] [] (176, R, x) Q) :
    jEx X (d + 1) jc_221 0 [some (.ref o)] [] (176, R, s) Q := by
  refine jlim_ok (G := fun s : jH => jEx X (d + 1) jc_221 0 [some (.ref o)] [] (176, R, s) Q) (GX := fun x : jH => jEx X (d + 1) jc_221 51 [none] [] (176, R, x) Q) (fun s z hz HL HE => ?_) K HE
  exact kM_qEndsPart_l0_b hT ho hd hz HL HE
/-- AndGuestModel.qEndsPart()V -/
noncomputable def fM_qEndsPart (R : jR) (o : Nat) (h : jH) : Option jH :=
  (Option.bind (jlim (fM_qEndsPart_l0 R o) h) (fun (x6 : jH) =>
  some x6))
theorem kM_qEndsPart {X : jX} {d : Nat} {R : jR} {Q : Option Value → jS → Prop} {o : Nat} {h : jH} (hT : jTy R) (ho : jcl 176 o = 12) (hd : 2 ≤ d) {z : jH} (K : fM_qEndsPart R o h = some z) (HQ : Q none (176, R, z)) :
    jCa X d 221 [.ref o] (176, R, h) Q := by
  obtain ⟨d, rfl⟩ : ∃ d9, d = d9 + 1 := ⟨d - 1, by omega⟩
  unfold fM_qEndsPart at K
  refine jCa_of (es := jc_221) (pl := [some (.ref o)]) (M := jm_221) rfl rfl rfl rfl ?_
  refine jx_le (pl' := [some (.ref o)]) (jle_v jle_nil) ?_
  obtain ⟨x6, hz_x6, K⟩ := Option.bind_eq_some_iff.mp K
  refine kM_qEndsPart_l0_w hT ho hd hz_x6 ?_
  obtain rfl := Option.some.inj K
  exact jx_ret (pc := 51) rfl rfl HQ
noncomputable def fM_qPartTold_l2_j183 (R : jR) (o : Nat) (v1 : Int32) (h : jH) : Option ((Int32 × jH) ⊕ (jH)) :=
  some (.inl (v1, h))
theorem kM_qPartTold_l2_j183 {X : jX} {d : Nat} {R : jR} {Q : Option Value → jS → Prop} {o : Nat} {v1 : Int32} {h : jH} (hT : jTy R) (ho : jcl 176 o = 12) (hd : 5 ≤ (d + 1)) {z : (Int32 × jH) ⊕ (jH)} (K : fM_qPartTold_l2_j183 R o v1 h = some z) (HL : ∀ s : Int32 × jH, z = .inl s → jEx X (d + 1) jc_214 2 [some (.ref o), some (.int s.1), none, none, none, none] [] (176, R, s.2) Q) (HE0 : ∀ x : jH, z = .inr x → jEx X (d + 1) jc_214 186 [some (.ref o), none, none, none, none, none] [] (176, R, x) Q) :
    jEx X (d + 1) jc_214 183 [some (.ref o), some (.int v1), none, none, none, none] [] (176, R, h) Q := by
  unfold fM_qPartTold_l2_j183 at K
  refine jx_next (pc := 183) (pc' := 2) rfl rfl ?_
  obtain rfl := Option.some.inj K
  refine jx_le (pl' := [some (.ref o), some (.int v1), none, none, none, none]) (jle_v (jle_v (jle_n (jle_n (jle_n (jle_n jle_nil)))))) ?_
  exact HL _ rfl
noncomputable def fM_qPartTold_l2_j144 (R : jR) (o : Nat) (v1 : Int32) (h : jH) : Option ((Int32 × jH) ⊕ (jH)) :=
  (Option.bind (fM_asksSign R o 40 h) (fun (z20 : jH) =>
  fM_qPartTold_l2_j183 R o v1 z20))
theorem kM_qPartTold_l2_j144 {X : jX} {d : Nat} {R : jR} {Q : Option Value → jS → Prop} {o : Nat} {v1 : Int32} {h : jH} (hT : jTy R) (ho : jcl 176 o = 12) (hd : 5 ≤ (d + 1)) {z : (Int32 × jH) ⊕ (jH)} (K : fM_qPartTold_l2_j144 R o v1 h = some z) (HL : ∀ s : Int32 × jH, z = .inl s → jEx X (d + 1) jc_214 2 [some (.ref o), some (.int s.1), none, none, none, none] [] (176, R, s.2) Q) (HE0 : ∀ x : jH, z = .inr x → jEx X (d + 1) jc_214 186 [some (.ref o), none, none, none, none, none] [] (176, R, x) Q) :
    jEx X (d + 1) jc_214 144 [some (.ref o), some (.int v1), none, none, none, none] [] (176, R, h) Q := by
  unfold fM_qPartTold_l2_j144 at K
  refine jx_next (pc := 144) (pc' := 145) rfl rfl ?_
  refine jx_next (pc := 145) (pc' := 147) rfl rfl ?_
  refine jx_callv (pc := 147) (o := o) (rest := []) rfl ⟨by decide, by decide⟩ rfl ho (Nat.le_of_ble_eq_true rfl) ?_
  obtain ⟨z20, hz_z20, K⟩ := Option.bind_eq_some_iff.mp K
  refine kM_asksSign hT ho (by omega) hz_z20 ?_
  refine jx_next (pc := 150) (pc' := 183) rfl rfl ?_
  refine jx_le (pl' := [some (.ref o), some (.int v1), none, none, none, none]) (jle_v (jle_v (jle_n (jle_n (jle_n (jle_n jle_nil)))))) ?_
  exact kM_qPartTold_l2_j183 hT ho hd K HL HE0
noncomputable def fM_qPartTold_l2_j139 (R : jR) (o : Nat) (v1 : Int32) (v5 : Int32) (s0 : Nat) (s1 : Int32) (h : jH) : Option ((Int32 × jH) ⊕ (jH)) :=
  (Option.bind (fM_qOpens R s0 s1 v5 h) (fun (z22 : jH) =>
  fM_qPartTold_l2_j144 R o v1 z22))
theorem kM_qPartTold_l2_j139 {X : jX} {d : Nat} {R : jR} {Q : Option Value → jS → Prop} {o : Nat} {v1 : Int32} {v5 : Int32} {s0 : Nat} {s1 : Int32} {h : jH} (hT : jTy R) (ho : jcl 176 o = 12) (hs0 : jcl 176 s0 = 12) (hd : 5 ≤ (d + 1)) {z : (Int32 × jH) ⊕ (jH)} (K : fM_qPartTold_l2_j139 R o v1 v5 s0 s1 h = some z) (HL : ∀ s : Int32 × jH, z = .inl s → jEx X (d + 1) jc_214 2 [some (.ref o), some (.int s.1), none, none, none, none] [] (176, R, s.2) Q) (HE0 : ∀ x : jH, z = .inr x → jEx X (d + 1) jc_214 186 [some (.ref o), none, none, none, none, none] [] (176, R, x) Q) :
    jEx X (d + 1) jc_214 139 [some (.ref o), some (.int v1), none, none, none, some (.int v5)] [.int s1, .ref s0] (176, R, h) Q := by
  unfold fM_qPartTold_l2_j139 at K
  refine jx_next (pc := 139) (pc' := 141) rfl rfl ?_
  refine jx_callv (pc := 141) (o := s0) (rest := []) rfl ⟨by decide, by decide⟩ rfl hs0 (Nat.le_of_ble_eq_true rfl) ?_
  obtain ⟨z22, hz_z22, K⟩ := Option.bind_eq_some_iff.mp K
  refine kM_qOpens hT hs0 (by omega) hz_z22 ?_
  refine jx_le (pl' := [some (.ref o), some (.int v1), none, none, none, none]) (jle_v (jle_v (jle_n (jle_n (jle_n (jle_n jle_nil)))))) ?_
  exact kM_qPartTold_l2_j144 hT ho hd K HL HE0
noncomputable def fM_qPartTold_l2_j118 (R : jR) (o : Nat) (v1 : Int32) (v4 : Int32) (s0 : Int32) (h : jH) : Option ((Int32 × jH) ⊕ (jH)) :=
  (if s0 = (-1) then
  fM_qPartTold_l2_j144 R o v1 h
  else
  (if v4 = 0 then
  fM_qPartTold_l2_j139 R o v1 s0 o 22 h
  else
  fM_qPartTold_l2_j139 R o v1 s0 o 21 h))
theorem kM_qPartTold_l2_j118 {X : jX} {d : Nat} {R : jR} {Q : Option Value → jS → Prop} {o : Nat} {v1 : Int32} {v4 : Int32} {s0 : Int32} {h : jH} (hT : jTy R) (ho : jcl 176 o = 12) (hd : 5 ≤ (d + 1)) {z : (Int32 × jH) ⊕ (jH)} (K : fM_qPartTold_l2_j118 R o v1 v4 s0 h = some z) (HL : ∀ s : Int32 × jH, z = .inl s → jEx X (d + 1) jc_214 2 [some (.ref o), some (.int s.1), none, none, none, none] [] (176, R, s.2) Q) (HE0 : ∀ x : jH, z = .inr x → jEx X (d + 1) jc_214 186 [some (.ref o), none, none, none, none, none] [] (176, R, x) Q) :
    jEx X (d + 1) jc_214 118 [some (.ref o), some (.int v1), none, none, some (.int v4), none] [.int s0] (176, R, h) Q := by
  unfold fM_qPartTold_l2_j118 at K
  refine jx_sti (pc := 118) (p2 := [some (.ref o), some (.int v1), none, none, some (.int v4), some (.int s0)]) rfl (jlt rfl) rfl ?_
  refine jx_next (pc := 120) (pc' := 122) rfl rfl ?_
  refine jx_next (pc := 122) (pc' := 123) rfl rfl ?_
  refine jx_iceq (pc := 123) rfl (fun hc19 => ?_) (fun hc19 => ?_)
  · replace K := (if_pos hc19).symm.trans K
    refine jx_le (pl' := [some (.ref o), some (.int v1), none, none, none, none]) (jle_v (jle_v (jle_n (jle_n (jle_n (jle_n jle_nil)))))) ?_
    exact kM_qPartTold_l2_j144 hT ho hd K HL HE0
  · replace K := (if_neg hc19).symm.trans K
    refine jx_next (pc := 126) (pc' := 127) rfl rfl ?_
    refine jx_next (pc := 127) (pc' := 129) rfl rfl ?_
    refine jx_ifeq (pc := 129) rfl (fun hc21 => ?_) (fun hc21 => ?_)
    · replace K := (if_pos hc21).symm.trans K
      refine jx_next (pc := 137) (pc' := 139) rfl rfl ?_
      refine jx_le (pl' := [some (.ref o), some (.int v1), none, none, none, some (.int s0)]) (jle_v (jle_v (jle_n (jle_n (jle_n (jle_v jle_nil)))))) ?_
      exact kM_qPartTold_l2_j139 hT ho ho hd K HL HE0
    · replace K := (if_neg hc21).symm.trans K
      refine jx_next (pc := 132) (pc' := 134) rfl rfl ?_
      refine jx_next (pc := 134) (pc' := 139) rfl rfl ?_
      refine jx_le (pl' := [some (.ref o), some (.int v1), none, none, none, some (.int s0)]) (jle_v (jle_v (jle_n (jle_n (jle_n (jle_v jle_nil)))))) ?_
      exact kM_qPartTold_l2_j139 hT ho ho hd K HL HE0
noncomputable def fM_qPartTold_l2_j101 (R : jR) (o : Nat) (v1 : Int32) (v4 : Int32) (h : jH) : Option ((Int32 × jH) ⊕ (jH)) :=
  (Option.bind (fM_look R o h) (fun (z17 : Int32 × jH) =>
  (if z17.1 = 40 then
  fM_qPartTold_l2_j118 R o v1 v4 (z17.2.1 o 2) z17.2
  else
  fM_qPartTold_l2_j118 R o v1 v4 (-1) z17.2)))
theorem kM_qPartTold_l2_j101 {X : jX} {d : Nat} {R : jR} {Q : Option Value → jS → Prop} {o : Nat} {v1 : Int32} {v4 : Int32} {h : jH} (hT : jTy R) (ho : jcl 176 o = 12) (hd : 5 ≤ (d + 1)) {z : (Int32 × jH) ⊕ (jH)} (K : fM_qPartTold_l2_j101 R o v1 v4 h = some z) (HL : ∀ s : Int32 × jH, z = .inl s → jEx X (d + 1) jc_214 2 [some (.ref o), some (.int s.1), none, none, none, none] [] (176, R, s.2) Q) (HE0 : ∀ x : jH, z = .inr x → jEx X (d + 1) jc_214 186 [some (.ref o), none, none, none, none, none] [] (176, R, x) Q) :
    jEx X (d + 1) jc_214 101 [some (.ref o), some (.int v1), none, none, some (.int v4), none] [] (176, R, h) Q := by
  unfold fM_qPartTold_l2_j101 at K
  refine jx_next (pc := 101) (pc' := 102) rfl rfl ?_
  refine jx_callv (pc := 102) (o := o) (rest := []) rfl ⟨by decide, by decide⟩ rfl ho (Nat.le_of_ble_eq_true rfl) ?_
  obtain ⟨z17, hz_z17, K⟩ := Option.bind_eq_some_iff.mp K
  refine kM_look hT ho (by omega) hz_z17 ?_
  refine jx_next (pc := 105) (pc' := 107) rfl rfl ?_
  refine jx_icne (pc := 107) rfl (fun hc18 => ?_) (fun hc18 => ?_)
  · replace K := (if_pos hc18).symm.trans K
    refine jx_next (pc := 110) (pc' := 111) rfl rfl ?_
    refine jx_geti (pc := 111) rfl ho ?_
    refine jx_next (pc := 114) (pc' := 118) rfl rfl ?_
    refine jx_le (pl' := [some (.ref o), some (.int v1), none, none, some (.int v4), none]) (jle_v (jle_v (jle_n (jle_n (jle_v (jle_n jle_nil)))))) ?_
    exact kM_qPartTold_l2_j118 hT ho hd K HL HE0
  · replace K := (if_neg hc18).symm.trans K
    refine jx_next (pc := 117) (pc' := 118) rfl rfl ?_
    refine jx_le (pl' := [some (.ref o), some (.int v1), none, none, some (.int v4), none]) (jle_v (jle_v (jle_n (jle_n (jle_v (jle_n jle_nil)))))) ?_
    exact kM_qPartTold_l2_j118 hT ho hd K HL HE0
noncomputable def fM_qPartTold_l2_j78 (R : jR) (o : Nat) (v1 : Int32) (h : jH) : Option ((Int32 × jH) ⊕ (jH)) :=
  (Option.bind (fM_takes R o (R o 69) h) (fun (z14 : Int32 × jH) =>
  (if z14.1 = 0 then
  (Option.bind (fM_asks R o (R o 70) z14.2) (fun (z16 : jH) =>
  fM_qPartTold_l2_j101 R o v1 z14.1 z16))
  else
  fM_qPartTold_l2_j101 R o v1 z14.1 z14.2)))
theorem kM_qPartTold_l2_j78 {X : jX} {d : Nat} {R : jR} {Q : Option Value → jS → Prop} {o : Nat} {v1 : Int32} {h : jH} (hT : jTy R) (ho : jcl 176 o = 12) (hd : 5 ≤ (d + 1)) {z : (Int32 × jH) ⊕ (jH)} (K : fM_qPartTold_l2_j78 R o v1 h = some z) (HL : ∀ s : Int32 × jH, z = .inl s → jEx X (d + 1) jc_214 2 [some (.ref o), some (.int s.1), none, none, none, none] [] (176, R, s.2) Q) (HE0 : ∀ x : jH, z = .inr x → jEx X (d + 1) jc_214 186 [some (.ref o), none, none, none, none, none] [] (176, R, x) Q) :
    jEx X (d + 1) jc_214 78 [some (.ref o), some (.int v1), none, none, none, none] [] (176, R, h) Q := by
  unfold fM_qPartTold_l2_j78 at K
  refine jx_next (pc := 78) (pc' := 79) rfl rfl ?_
  refine jx_next (pc := 79) (pc' := 80) rfl rfl ?_
  refine jx_getr (pc := 80) rfl ho ?_
  refine jx_callv (pc := 83) (o := o) (rest := []) rfl ⟨by decide, by decide⟩ rfl ho (Nat.le_of_ble_eq_true rfl) ?_
  obtain ⟨z14, hz_z14, K⟩ := Option.bind_eq_some_iff.mp K
  refine kM_takes hT ho (jtR hT ho (k := 69) (c := 22) rfl) (by omega) hz_z14 ?_
  refine jx_sti (pc := 86) (p2 := [some (.ref o), some (.int v1), none, none, some (.int z14.1), none]) rfl (jlt rfl) rfl ?_
  refine jx_next (pc := 88) (pc' := 90) rfl rfl ?_
  refine jx_ifne (pc := 90) rfl (fun hc15 => ?_) (fun hc15 => ?_)
  · replace K := (if_pos hc15).symm.trans K
    refine jx_next (pc := 93) (pc' := 94) rfl rfl ?_
    refine jx_next (pc := 94) (pc' := 95) rfl rfl ?_
    refine jx_getr (pc := 95) rfl ho ?_
    refine jx_callv (pc := 98) (o := o) (rest := []) rfl ⟨by decide, by decide⟩ rfl ho (Nat.le_of_ble_eq_true rfl) ?_
    obtain ⟨z16, hz_z16, K⟩ := Option.bind_eq_some_iff.mp K
    refine kM_asks hT ho (jtR hT ho (k := 70) (c := 22) rfl) (by omega) hz_z16 ?_
    refine jx_le (pl' := [some (.ref o), some (.int v1), none, none, some (.int z14.1), none]) (jle_v (jle_v (jle_n (jle_n (jle_v (jle_n jle_nil)))))) ?_
    exact kM_qPartTold_l2_j101 hT ho hd K HL HE0
  · replace K := (if_neg hc15).symm.trans K
    refine jx_le (pl' := [some (.ref o), some (.int v1), none, none, some (.int z14.1), none]) (jle_v (jle_v (jle_n (jle_n (jle_v (jle_n jle_nil)))))) ?_
    exact kM_qPartTold_l2_j101 hT ho hd K HL HE0
noncomputable def fM_qPartTold_l2_b (R : jR) (o : Nat) (v1 : Int32) (h : jH) : Option ((Int32 × jH) ⊕ (jH)) :=
  (if v1 = 0 then
  some (.inr h)
  else
  (if (h.1 o 5) = 0 then
  (Option.bind (fM_look R o h) (fun (z3 : Int32 × jH) =>
  (Option.bind (fM_qWordOf R o 7 8 z3.2) (fun (z4 : Int32 × jH) =>
  (if z3.1 = 40 then
  (Option.bind (fM_qOpens R o 20 (z4.2.1 o 2) z4.2) (fun (z6 : jH) =>
  fM_qPartTold_l2_j183 R o v1 (jhI z6 o 2 ((z6.1 o 2) + 1))))
  else
  (Option.bind (fM_isHere R o (R o 69) z4.2) (fun (z7 : Int32 × jH) =>
  (if z7.1 = 0 then
  (Option.bind (fM_isHere R o (R o 70) z7.2) (fun (z9 : Int32 × jH) =>
  (if z9.1 = 0 then
  (if z4.1 = (-1) then
  fM_qPartTold_l2_j183 R o 0 z9.2
  else
  (Option.bind (fM_qOpens R o ((60 + z4.1) - 7) (z9.2.1 o 2) z9.2) (fun (z12 : jH) =>
  (Option.bind (fM_qAsksWord R o z4.1 z12) (fun (z13 : jH) =>
  fM_qPartTold_l2_j183 R o v1 z13)))))
  else
  fM_qPartTold_l2_j78 R o v1 z9.2)))
  else
  fM_qPartTold_l2_j78 R o v1 z7.2))))))))
  else
  some (.inr h)))
noncomputable def fM_qPartTold_l2 (R : jR) (o : Nat) : (Int32 × jH) → Option ((Int32 × jH) ⊕ (jH)) :=
  fun (s : Int32 × jH) => fM_qPartTold_l2_b R o s.1 s.2
theorem kM_qPartTold_l2_b {X : jX} {d : Nat} {R : jR} {Q : Option Value → jS → Prop} {o : Nat} {v1 : Int32} {h : jH} (hT : jTy R) (ho : jcl 176 o = 12) (hd : 5 ≤ (d + 1)) {z : (Int32 × jH) ⊕ (jH)} (K : fM_qPartTold_l2_b R o v1 h = some z) (HL : ∀ s : Int32 × jH, z = .inl s → jEx X (d + 1) jc_214 2 [some (.ref o), some (.int s.1), none, none, none, none] [] (176, R, s.2) Q) (HE0 : ∀ x : jH, z = .inr x → jEx X (d + 1) jc_214 186 [some (.ref o), none, none, none, none, none] [] (176, R, x) Q) :
    jEx X (d + 1) jc_214 2 [some (.ref o), some (.int v1), none, none, none, none] [] (176, R, h) Q := by
  unfold fM_qPartTold_l2_b at K
  refine jx_next (pc := 2) (pc' := 3) rfl rfl ?_
  refine jx_ifeq (pc := 3) rfl (fun hc1 => ?_) (fun hc1 => ?_)
  · replace K := (if_pos hc1).symm.trans K
    obtain rfl := Option.some.inj K
    refine jx_le (pl' := [some (.ref o), none, none, none, none, none]) (jle_v (jle_n (jle_n (jle_n (jle_n (jle_n jle_nil)))))) ?_
    exact HE0 _ rfl
  · replace K := (if_neg hc1).symm.trans K
    refine jx_next (pc := 6) (pc' := 7) rfl rfl ?_
    refine jx_geti (pc := 7) rfl ho ?_
    refine jx_ifne (pc := 10) rfl (fun hc2 => ?_) (fun hc2 => ?_)
    · replace K := (if_pos hc2).symm.trans K
      refine jx_next (pc := 13) (pc' := 14) rfl rfl ?_
      refine jx_callv (pc := 14) (o := o) (rest := []) rfl ⟨by decide, by decide⟩ rfl ho (Nat.le_of_ble_eq_true rfl) ?_
      obtain ⟨z3, hz_z3, K⟩ := Option.bind_eq_some_iff.mp K
      refine kM_look hT ho (by omega) hz_z3 ?_
      refine jx_stin (pc := 17) (p2 := [some (.ref o), some (.int v1), some (.int z3.1), none, none, none]) rfl (jlt rfl) rfl ?_
      refine jx_next (pc := 18) (pc' := 19) rfl rfl ?_
      refine jx_next (pc := 19) (pc' := 21) rfl rfl ?_
      refine jx_next (pc := 21) (pc' := 23) rfl rfl ?_
      refine jx_callv (pc := 23) (o := o) (rest := []) rfl ⟨by decide, by decide⟩ rfl ho (Nat.le_of_ble_eq_true rfl) ?_
      obtain ⟨z4, hz_z4, K⟩ := Option.bind_eq_some_iff.mp K
      refine kM_qWordOf hT ho (by omega) hz_z4 ?_
      refine jx_stin (pc := 26) (p2 := [some (.ref o), some (.int v1), some (.int z3.1), some (.int z4.1), none, none]) rfl (jlt rfl) rfl ?_
      refine jx_next (pc := 27) (pc' := 28) rfl rfl ?_
      refine jx_next (pc := 28) (pc' := 30) rfl rfl ?_
      refine jx_icne (pc := 30) rfl (fun hc5 => ?_) (fun hc5 => ?_)
      · replace K := (if_pos hc5).symm.trans K
        refine jx_next (pc := 33) (pc' := 34) rfl rfl ?_
        refine jx_next (pc := 34) (pc' := 36) rfl rfl ?_
        refine jx_next (pc := 36) (pc' := 37) rfl rfl ?_
        refine jx_geti (pc := 37) rfl ho ?_
        refine jx_callv (pc := 40) (o := o) (rest := []) rfl ⟨by decide, by decide⟩ rfl ho (Nat.le_of_ble_eq_true rfl) ?_
        obtain ⟨z6, hz_z6, K⟩ := Option.bind_eq_some_iff.mp K
        refine kM_qOpens hT ho (by omega) hz_z6 ?_
        refine jx_next (pc := 43) (pc' := 44) rfl rfl ?_
        refine jx_next (pc := 44) (pc' := 45) rfl rfl ?_
        refine jx_geti (pc := 45) rfl ho ?_
        refine jx_next (pc := 48) (pc' := 49) rfl rfl ?_
        refine jx_next (pc := 49) (pc' := 50) rfl rfl ?_
        refine jx_puti (pc := 50) rfl ho ?_
        refine jx_next (pc := 53) (pc' := 183) rfl rfl ?_
        refine jx_le (pl' := [some (.ref o), some (.int v1), none, none, none, none]) (jle_v (jle_v (jle_n (jle_n (jle_n (jle_n jle_nil)))))) ?_
        exact kM_qPartTold_l2_j183 hT ho hd K HL HE0
      · replace K := (if_neg hc5).symm.trans K
        refine jx_next (pc := 56) (pc' := 57) rfl rfl ?_
        refine jx_next (pc := 57) (pc' := 58) rfl rfl ?_
        refine jx_getr (pc := 58) rfl ho ?_
        refine jx_callv (pc := 61) (o := o) (rest := []) rfl ⟨by decide, by decide⟩ rfl ho (Nat.le_of_ble_eq_true rfl) ?_
        obtain ⟨z7, hz_z7, K⟩ := Option.bind_eq_some_iff.mp K
        refine kM_isHere hT ho (jtR hT ho (k := 69) (c := 22) rfl) (by omega) hz_z7 ?_
        refine jx_ifne (pc := 64) rfl (fun hc8 => ?_) (fun hc8 => ?_)
        · replace K := (if_pos hc8).symm.trans K
          refine jx_next (pc := 67) (pc' := 68) rfl rfl ?_
          refine jx_next (pc := 68) (pc' := 69) rfl rfl ?_
          refine jx_getr (pc := 69) rfl ho ?_
          refine jx_callv (pc := 72) (o := o) (rest := []) rfl ⟨by decide, by decide⟩ rfl ho (Nat.le_of_ble_eq_true rfl) ?_
          obtain ⟨z9, hz_z9, K⟩ := Option.bind_eq_some_iff.mp K
          refine kM_isHere hT ho (jtR hT ho (k := 70) (c := 22) rfl) (by omega) hz_z9 ?_
          refine jx_ifeq (pc := 75) rfl (fun hc10 => ?_) (fun hc10 => ?_)
          · replace K := (if_pos hc10).symm.trans K
            refine jx_next (pc := 153) (pc' := 154) rfl rfl ?_
            refine jx_next (pc := 154) (pc' := 155) rfl rfl ?_
            refine jx_iceq (pc := 155) rfl (fun hc11 => ?_) (fun hc11 => ?_)
            · replace K := (if_pos hc11).symm.trans K
              refine jx_next (pc := 181) (pc' := 182) rfl rfl ?_
              refine jx_stin (pc := 182) (p2 := [some (.ref o), some (.int 0), some (.int z3.1), some (.int z4.1), none, none]) rfl (jlt rfl) rfl ?_
              refine jx_le (pl' := [some (.ref o), some (.int 0), none, none, none, none]) (jle_v (jle_v (jle_n (jle_n (jle_n (jle_n jle_nil)))))) ?_
              exact kM_qPartTold_l2_j183 hT ho hd K HL HE0
            · replace K := (if_neg hc11).symm.trans K
              refine jx_next (pc := 158) (pc' := 159) rfl rfl ?_
              refine jx_next (pc := 159) (pc' := 161) rfl rfl ?_
              refine jx_next (pc := 161) (pc' := 162) rfl rfl ?_
              refine jx_next (pc := 162) (pc' := 163) rfl rfl ?_
              refine jx_next (pc := 163) (pc' := 165) rfl rfl ?_
              refine jx_next (pc := 165) (pc' := 166) rfl rfl ?_
              refine jx_next (pc := 166) (pc' := 167) rfl rfl ?_
              refine jx_geti (pc := 167) rfl ho ?_
              refine jx_callv (pc := 170) (o := o) (rest := []) rfl ⟨by decide, by decide⟩ rfl ho (Nat.le_of_ble_eq_true rfl) ?_
              obtain ⟨z12, hz_z12, K⟩ := Option.bind_eq_some_iff.mp K
              refine kM_qOpens hT ho (by omega) hz_z12 ?_
              refine jx_next (pc := 173) (pc' := 174) rfl rfl ?_
              refine jx_next (pc := 174) (pc' := 175) rfl rfl ?_
              refine jx_callv (pc := 175) (o := o) (rest := []) rfl ⟨by decide, by decide⟩ rfl ho (Nat.le_of_ble_eq_true rfl) ?_
              obtain ⟨z13, hz_z13, K⟩ := Option.bind_eq_some_iff.mp K
              refine kM_qAsksWord hT ho (by omega) hz_z13 ?_
              refine jx_next (pc := 178) (pc' := 183) rfl rfl ?_
              refine jx_le (pl' := [some (.ref o), some (.int v1), none, none, none, none]) (jle_v (jle_v (jle_n (jle_n (jle_n (jle_n jle_nil)))))) ?_
              exact kM_qPartTold_l2_j183 hT ho hd K HL HE0
          · replace K := (if_neg hc10).symm.trans K
            refine jx_le (pl' := [some (.ref o), some (.int v1), none, none, none, none]) (jle_v (jle_v (jle_n (jle_n (jle_n (jle_n jle_nil)))))) ?_
            exact kM_qPartTold_l2_j78 hT ho hd K HL HE0
        · replace K := (if_neg hc8).symm.trans K
          refine jx_le (pl' := [some (.ref o), some (.int v1), none, none, none, none]) (jle_v (jle_v (jle_n (jle_n (jle_n (jle_n jle_nil)))))) ?_
          exact kM_qPartTold_l2_j78 hT ho hd K HL HE0
    · replace K := (if_neg hc2).symm.trans K
      obtain rfl := Option.some.inj K
      refine jx_le (pl' := [some (.ref o), none, none, none, none, none]) (jle_v (jle_n (jle_n (jle_n (jle_n (jle_n jle_nil)))))) ?_
      exact HE0 _ rfl
theorem kM_qPartTold_l2_w {X : jX} {d : Nat} {R : jR} {Q : Option Value → jS → Prop} {o : Nat} (hT : jTy R) (ho : jcl 176 o = 12) (hd : 5 ≤ (d + 1)) {s : Int32 × jH} {x : jH} (K : jlim (fM_qPartTold_l2 R o) s = some x) (HE : jEx X (d + 1) jc_214 186 [some (.ref o), none, none, none, none, none] [] (176, R, x) Q) :
    jEx X (d + 1) jc_214 2 [some (.ref o), some (.int s.1), none, none, none, none] [] (176, R, s.2) Q := by
  refine jlim_ok (G := fun s : Int32 × jH => jEx X (d + 1) jc_214 2 [some (.ref o), some (.int s.1), none, none, none, none] [] (176, R, s.2) Q) (GX := fun x : jH => jEx X (d + 1) jc_214 186 [some (.ref o), none, none, none, none, none] [] (176, R, x) Q) (fun s z hz HL HE => ?_) K HE
  exact kM_qPartTold_l2_b hT ho hd hz HL HE
noncomputable def fM_qPartTold_j237 (R : jR) (o : Nat) (s0 : Nat) (s1 : Int32) (h : jH) : Option jH :=
  (Option.bind (fM_qCode R s0 s1 h) (fun (z29 : jH) =>
  (Option.bind (fM_qEndsPart R o z29) (fun (z30 : jH) =>
  some z30))))
theorem kM_qPartTold_j237 {X : jX} {d : Nat} {R : jR} {Q : Option Value → jS → Prop} {o : Nat} {s0 : Nat} {s1 : Int32} {h : jH} (hT : jTy R) (ho : jcl 176 o = 12) (hs0 : jcl 176 s0 = 12) (hd : 5 ≤ (d + 1)) {z : jH} (K : fM_qPartTold_j237 R o s0 s1 h = some z) (HQ : Q none (176, R, z)) :
    jEx X (d + 1) jc_214 237 [some (.ref o), none, none, none, none, none] [.int s1, .ref s0] (176, R, h) Q := by
  unfold fM_qPartTold_j237 at K
  refine jx_callv (pc := 237) (o := s0) (rest := []) rfl ⟨by decide, by decide⟩ rfl hs0 (Nat.le_of_ble_eq_true rfl) ?_
  obtain ⟨z29, hz_z29, K⟩ := Option.bind_eq_some_iff.mp K
  refine kM_qCode hT hs0 (by omega) hz_z29 ?_
  refine jx_next (pc := 240) (pc' := 241) rfl rfl ?_
  refine jx_callv (pc := 241) (o := o) (rest := []) rfl ⟨by decide, by decide⟩ rfl ho (Nat.le_of_ble_eq_true rfl) ?_
  obtain ⟨z30, hz_z30, K⟩ := Option.bind_eq_some_iff.mp K
  refine kM_qEndsPart hT ho (by omega) hz_z30 ?_
  obtain rfl := Option.some.inj K
  exact jx_ret (pc := 244) rfl rfl HQ
noncomputable def fM_qPartTold_j212 (R : jR) (o : Nat) (v2 : Int32) (h : jH) : Option jH :=
  (if v2 = (-1) then
  (Option.bind (fM_number R o 0 9999 h) (fun (z28 : Int32 × jH) =>
  fM_qPartTold_j237 R o o (1000 + z28.1) z28.2))
  else
  fM_qPartTold_j237 R o o (40 + v2) h)
theorem kM_qPartTold_j212 {X : jX} {d : Nat} {R : jR} {Q : Option Value → jS → Prop} {o : Nat} {v2 : Int32} {h : jH} (hT : jTy R) (ho : jcl 176 o = 12) (hd : 5 ≤ (d + 1)) {z : jH} (K : fM_qPartTold_j212 R o v2 h = some z) (HQ : Q none (176, R, z)) :
    jEx X (d + 1) jc_214 212 [some (.ref o), none, some (.int v2), none, none, none] [] (176, R, h) Q := by
  unfold fM_qPartTold_j212 at K
  refine jx_next (pc := 212) (pc' := 213) rfl rfl ?_
  refine jx_next (pc := 213) (pc' := 214) rfl rfl ?_
  refine jx_next (pc := 214) (pc' := 215) rfl rfl ?_
  refine jx_iceq (pc := 215) rfl (fun hc27 => ?_) (fun hc27 => ?_)
  · replace K := (if_pos hc27).symm.trans K
    refine jx_next (pc := 225) (pc' := 228) rfl rfl ?_
    refine jx_next (pc := 228) (pc' := 229) rfl rfl ?_
    refine jx_next (pc := 229) (pc' := 230) rfl rfl ?_
    refine jx_next (pc := 230) (pc' := 233) rfl rfl ?_
    refine jx_callv (pc := 233) (o := o) (rest := [.int 1000, .ref o]) rfl ⟨by decide, by decide⟩ rfl ho (Nat.le_of_ble_eq_true rfl) ?_
    obtain ⟨z28, hz_z28, K⟩ := Option.bind_eq_some_iff.mp K
    refine kM_number hT ho (by omega) hz_z28 ?_
    refine jx_next (pc := 236) (pc' := 237) rfl rfl ?_
    refine jx_le (pl' := [some (.ref o), none, none, none, none, none]) (jle_v (jle_n (jle_n (jle_n (jle_n (jle_n jle_nil)))))) ?_
    exact kM_qPartTold_j237 hT ho ho hd K HQ
  · replace K := (if_neg hc27).symm.trans K
    refine jx_next (pc := 218) (pc' := 220) rfl rfl ?_
    refine jx_next (pc := 220) (pc' := 221) rfl rfl ?_
    refine jx_next (pc := 221) (pc' := 222) rfl rfl ?_
    refine jx_next (pc := 222) (pc' := 237) rfl rfl ?_
    refine jx_le (pl' := [some (.ref o), none, none, none, none, none]) (jle_v (jle_n (jle_n (jle_n (jle_n (jle_n jle_nil)))))) ?_
    exact kM_qPartTold_j237 hT ho ho hd K HQ
/-- AndGuestModel.qPartTold()V -/
noncomputable def fM_qPartTold (R : jR) (o : Nat) (h : jH) : Option jH :=
  (Option.bind (jlim (fM_qPartTold_l2 R o) (1, h)) (fun (x23 : jH) =>
  (if (x23.1 o 5) = 0 then
  (Option.bind (fM_qWordOf R o 0 7 x23) (fun (z25 : Int32 × jH) =>
  (if z25.1 = (-1) then
  fM_qPartTold_j212 R o z25.1 z25.2
  else
  (Option.bind (fM_qAsksWord R o z25.1 z25.2) (fun (z31 : jH) =>
  fM_qPartTold_j212 R o z25.1 z31)))))
  else
  some x23)))
theorem kM_qPartTold {X : jX} {d : Nat} {R : jR} {Q : Option Value → jS → Prop} {o : Nat} {h : jH} (hT : jTy R) (ho : jcl 176 o = 12) (hd : 5 ≤ d) {z : jH} (K : fM_qPartTold R o h = some z) (HQ : Q none (176, R, z)) :
    jCa X d 214 [.ref o] (176, R, h) Q := by
  obtain ⟨d, rfl⟩ : ∃ d9, d = d9 + 1 := ⟨d - 1, by omega⟩
  unfold fM_qPartTold at K
  refine jCa_of (es := jc_214) (pl := [some (.ref o), none, none, none, none, none]) (M := jm_214) rfl rfl rfl rfl ?_
  refine jx_next (pc := 0) (pc' := 1) rfl rfl ?_
  refine jx_stin (pc := 1) (p2 := [some (.ref o), some (.int 1), none, none, none, none]) rfl (jlt rfl) rfl ?_
  refine jx_le (pl' := [some (.ref o), some (.int 1), none, none, none, none]) (jle_v (jle_v (jle_n (jle_n (jle_n (jle_n jle_nil)))))) ?_
  obtain ⟨x23, hz_x23, K⟩ := Option.bind_eq_some_iff.mp K
  refine kM_qPartTold_l2_w hT ho hd hz_x23 ?_
  refine jx_next (pc := 186) (pc' := 187) rfl rfl ?_
  refine jx_geti (pc := 187) rfl ho ?_
  refine jx_ifeq (pc := 190) rfl (fun hc24 => ?_) (fun hc24 => ?_)
  · replace K := (if_pos hc24).symm.trans K
    refine jx_next (pc := 194) (pc' := 195) rfl rfl ?_
    refine jx_next (pc := 195) (pc' := 196) rfl rfl ?_
    refine jx_next (pc := 196) (pc' := 198) rfl rfl ?_
    refine jx_callv (pc := 198) (o := o) (rest := []) rfl ⟨by decide, by decide⟩ rfl ho (Nat.le_of_ble_eq_true rfl) ?_
    obtain ⟨z25, hz_z25, K⟩ := Option.bind_eq_some_iff.mp K
    refine kM_qWordOf hT ho (by omega) hz_z25 ?_
    refine jx_stin (pc := 201) (p2 := [some (.ref o), none, some (.int z25.1), none, none, none]) rfl (jlt rfl) rfl ?_
    refine jx_next (pc := 202) (pc' := 203) rfl rfl ?_
    refine jx_next (pc := 203) (pc' := 204) rfl rfl ?_
    refine jx_iceq (pc := 204) rfl (fun hc26 => ?_) (fun hc26 => ?_)
    · replace K := (if_pos hc26).symm.trans K
      refine jx_le (pl' := [some (.ref o), none, some (.int z25.1), none, none, none]) (jle_v (jle_n (jle_v (jle_n (jle_n (jle_n jle_nil)))))) ?_
      exact kM_qPartTold_j212 hT ho hd K HQ
    · replace K := (if_neg hc26).symm.trans K
      refine jx_next (pc := 207) (pc' := 208) rfl rfl ?_
      refine jx_next (pc := 208) (pc' := 209) rfl rfl ?_
      refine jx_callv (pc := 209) (o := o) (rest := []) rfl ⟨by decide, by decide⟩ rfl ho (Nat.le_of_ble_eq_true rfl) ?_
      obtain ⟨z31, hz_z31, K⟩ := Option.bind_eq_some_iff.mp K
      refine kM_qAsksWord hT ho (by omega) hz_z31 ?_
      refine jx_le (pl' := [some (.ref o), none, some (.int z25.1), none, none, none]) (jle_v (jle_n (jle_v (jle_n (jle_n (jle_n jle_nil)))))) ?_
      exact kM_qPartTold_j212 hT ho hd K HQ
  · replace K := (if_neg hc24).symm.trans K
    obtain rfl := Option.some.inj K
    exact jx_ret (pc := 193) rfl rfl HQ
/-- AndGuestModel.qIsBracket(I)Z -/
noncomputable def fM_qIsBracket (v0 : Int32) : Int32 :=
  (if v0 < 20 then
  (0 : Int32)
  else
  (if 24 < v0 then
  (0 : Int32)
  else
  (1 : Int32)))
theorem kM_qIsBracket {X : jX} {d : Nat} {R : jR} {Q : Option Value → jS → Prop} {v0 : Int32} {h : jH}  (hd : 0 ≤ d) {z : Int32} (K : fM_qIsBracket v0 = z) (HQ : Q (some (.int z)) (176, R, h)) :
    jCa X d 225 [.int v0] (176, R, h) Q := by
  unfold fM_qIsBracket at K
  refine jCa_of (es := jc_225) (pl := [some (.int v0)]) (M := jm_225) rfl rfl rfl rfl ?_
  refine jx_next (pc := 0) (pc' := 1) rfl rfl ?_
  refine jx_next (pc := 1) (pc' := 3) rfl rfl ?_
  refine jx_iclt (pc := 3) rfl (fun hc1 => ?_) (fun hc1 => ?_)
  · replace K := (if_pos hc1).symm.trans K
    refine jx_next (pc := 16) (pc' := 17) rfl rfl ?_
    obtain rfl := K
    exact jx_zret (pc := 17) rfl (Or.inl rfl) HQ
  · replace K := (if_neg hc1).symm.trans K
    refine jx_next (pc := 6) (pc' := 7) rfl rfl ?_
    refine jx_next (pc := 7) (pc' := 9) rfl rfl ?_
    refine jx_icgt (pc := 9) rfl (fun hc2 => ?_) (fun hc2 => ?_)
    · replace K := (if_pos hc2).symm.trans K
      refine jx_next (pc := 16) (pc' := 17) rfl rfl ?_
      obtain rfl := K
      exact jx_zret (pc := 17) rfl (Or.inl rfl) HQ
    · replace K := (if_neg hc2).symm.trans K
      refine jx_next (pc := 12) (pc' := 13) rfl rfl ?_
      refine jx_next (pc := 13) (pc' := 17) rfl rfl ?_
      obtain rfl := K
      exact jx_zret (pc := 17) rfl (Or.inr rfl) HQ
noncomputable def fM_qBracket_l7_b (R : jR) (o : Nat) (v1 : Int32) (h : jH) : Option ((Int32) ⊕ (Int32)) :=
  (if v1 < (h.1 o 84) then
  some (.inr v1)
  else
  (if jin v1 (jsh (R o 81)).2 then
  (if (fM_qIsBracket (h.1 (R o 81) v1.toNatClampNeg)) = 0 then
  some (.inl (v1 + (-1)))
  else
  some (.inr v1))
  else none))
noncomputable def fM_qBracket_l7 (R : jR) (o : Nat) (h : jH) : Int32 → Option ((Int32) ⊕ (Int32)) :=
  fun (s : Int32) => fM_qBracket_l7_b R o s h
theorem kM_qBracket_l7_b {X : jX} {d : Nat} {R : jR} {Q : Option Value → jS → Prop} {o : Nat} {v1 : Int32} {h : jH} (hT : jTy R) (ho : jcl 176 o = 12) (hd : 1 ≤ (d + 1)) {z : (Int32) ⊕ (Int32)} (K : fM_qBracket_l7_b R o v1 h = some z) (HL : ∀ s : Int32, z = .inl s → jEx X (d + 1) jc_224 7 [some (.ref o), some (.int s)] [] (176, R, h) Q) (HE0 : ∀ x : Int32, z = .inr x → jEx X (d + 1) jc_224 33 [some (.ref o), some (.int x)] [] (176, R, h) Q) :
    jEx X (d + 1) jc_224 7 [some (.ref o), some (.int v1)] [] (176, R, h) Q := by
  unfold fM_qBracket_l7_b at K
  refine jx_next (pc := 7) (pc' := 8) rfl rfl ?_
  refine jx_next (pc := 8) (pc' := 9) rfl rfl ?_
  refine jx_geti (pc := 9) rfl ho ?_
  refine jx_iclt (pc := 12) rfl (fun hc1 => ?_) (fun hc1 => ?_)
  · replace K := (if_pos hc1).symm.trans K
    obtain rfl := Option.some.inj K
    refine jx_le (pl' := [some (.ref o), some (.int v1)]) (jle_v (jle_v jle_nil)) ?_
    exact HE0 _ rfl
  · replace K := (if_neg hc1).symm.trans K
    refine jx_next (pc := 15) (pc' := 16) rfl rfl ?_
    refine jx_getr (pc := 16) rfl ho ?_
    refine jx_next (pc := 19) (pc' := 20) rfl rfl ?_
    obtain ⟨hg2, K⟩ := jguard K
    refine jx_iald (pc := 20) rfl (jtR hT ho (k := 81) (c := 20) rfl) hg2 ?_
    refine jx_calls (pc := 21) rfl (Nat.le_of_ble_eq_true rfl) (Nat.le_of_ble_eq_true rfl) ?_
    refine kM_qIsBracket  (by omega) rfl ?_
    refine jx_ifne (pc := 24) rfl (fun hc3 => ?_) (fun hc3 => ?_)
    · replace K := (if_pos hc3).symm.trans K
      refine jx_inc (pc := 27) (x := v1) (p2 := [some (.ref o), some (.int (v1 + (-1)))]) rfl rfl (jlt rfl) rfl ?_
      refine jx_next (pc := 30) (pc' := 7) rfl rfl ?_
      obtain rfl := Option.some.inj K
      refine jx_le (pl' := [some (.ref o), some (.int (v1 + (-1)))]) (jle_v (jle_v jle_nil)) ?_
      exact HL _ rfl
    · replace K := (if_neg hc3).symm.trans K
      obtain rfl := Option.some.inj K
      refine jx_le (pl' := [some (.ref o), some (.int v1)]) (jle_v (jle_v jle_nil)) ?_
      exact HE0 _ rfl
theorem kM_qBracket_l7_w {X : jX} {d : Nat} {R : jR} {Q : Option Value → jS → Prop} {o : Nat} {h : jH} (hT : jTy R) (ho : jcl 176 o = 12) (hd : 1 ≤ (d + 1)) {s : Int32} {x : Int32} (K : jlim (fM_qBracket_l7 R o h) s = some x) (HE : jEx X (d + 1) jc_224 33 [some (.ref o), some (.int x)] [] (176, R, h) Q) :
    jEx X (d + 1) jc_224 7 [some (.ref o), some (.int s)] [] (176, R, h) Q := by
  refine jlim_ok (G := fun s : Int32 => jEx X (d + 1) jc_224 7 [some (.ref o), some (.int s)] [] (176, R, h) Q) (GX := fun x : Int32 => jEx X (d + 1) jc_224 33 [some (.ref o), some (.int x)] [] (176, R, h) Q) (fun s z hz HL HE => ?_) K HE
  exact kM_qBracket_l7_b hT ho hd hz HL HE
/-- AndGuestModel.qBracket()I -/
noncomputable def fM_qBracket (R : jR) (o : Nat) (h : jH) : Option Int32 :=
  (Option.bind (jlim (fM_qBracket_l7 R o h) (h.1 o 82) - 1) (fun (x4 : Int32) =>
  (if x4 < (h.1 o 84) then
  some ((-1) : Int32)
  else
  (if jin x4 (jsh (R o 81)).2 then
  some (h.1 (R o 81) x4.toNatClampNeg : Int32)
  else none))))
theorem kM_qBracket {X : jX} {d : Nat} {R : jR} {Q : Option Value → jS → Prop} {o : Nat} {h : jH} (hT : jTy R) (ho : jcl 176 o = 12) (hd : 1 ≤ d) {z : Int32} (K : fM_qBracket R o h = some z) (HQ : Q (some (.int z)) (176, R, h)) :
    jCa X d 224 [.ref o] (176, R, h) Q := by
  obtain ⟨d, rfl⟩ : ∃ d9, d = d9 + 1 := ⟨d - 1, by omega⟩
  unfold fM_qBracket at K
  refine jCa_of (es := jc_224) (pl := [some (.ref o), none]) (M := jm_224) rfl rfl rfl rfl ?_
  refine jx_next (pc := 0) (pc' := 1) rfl rfl ?_
  refine jx_geti (pc := 1) rfl ho ?_
  refine jx_next (pc := 4) (pc' := 5) rfl rfl ?_
  refine jx_next (pc := 5) (pc' := 6) rfl rfl ?_
  refine jx_stin (pc := 6) (p2 := [some (.ref o), some (.int ((h.1 o 82) - 1))]) rfl (jlt rfl) rfl ?_
  refine jx_le (pl' := [some (.ref o), some (.int ((h.1 o 82) - 1))]) (jle_v (jle_v jle_nil)) ?_
  obtain ⟨x4, hz_x4, K⟩ := Option.bind_eq_some_iff.mp K
  refine kM_qBracket_l7_w hT ho hd hz_x4 ?_
  refine jx_next (pc := 33) (pc' := 34) rfl rfl ?_
  refine jx_next (pc := 34) (pc' := 35) rfl rfl ?_
  refine jx_geti (pc := 35) rfl ho ?_
  refine jx_iclt (pc := 38) rfl (fun hc5 => ?_) (fun hc5 => ?_)
  · replace K := (if_pos hc5).symm.trans K
    refine jx_next (pc := 50) (pc' := 51) rfl rfl ?_
    obtain rfl := Option.some.inj K
    exact jx_iret (pc := 51) rfl HQ
  · replace K := (if_neg hc5).symm.trans K
    refine jx_next (pc := 41) (pc' := 42) rfl rfl ?_
    refine jx_getr (pc := 42) rfl ho ?_
    refine jx_next (pc := 45) (pc' := 46) rfl rfl ?_
    obtain ⟨hg6, K⟩ := jguard K
    refine jx_iald (pc := 46) rfl (jtR hT ho (k := 81) (c := 20) rfl) hg6 ?_
    refine jx_next (pc := 47) (pc' := 51) rfl rfl ?_
    obtain rfl := Option.some.inj K
    exact jx_iret (pc := 51) rfl HQ
noncomputable def fM_qDropsToBracket_l0_b (R : jR) (o : Nat) (h : jH) : Option ((jH) ⊕ (jH)) :=
  (if (h.1 o 84) < (h.1 o 82) then
  (if jin ((h.1 o 82) - 1) (jsh (R o 81)).2 then
  (if (fM_qIsBracket (h.1 (R o 81) ((h.1 o 82) - 1).toNatClampNeg)) = 0 then
  (Option.bind (fM_qDrops R o h) (fun (z4 : jH) =>
  some (.inl z4)))
  else
  some (.inr h))
  else none)
  else
  some (.inr h))
noncomputable def fM_qDropsToBracket_l0 (R : jR) (o : Nat) : jH → Option ((jH) ⊕ (jH)) :=
  fun (s : jH) => fM_qDropsToBracket_l0_b R o s
theorem kM_qDropsToBracket_l0_b {X : jX} {d : Nat} {R : jR} {Q : Option Value → jS → Prop} {o : Nat} {h : jH} (hT : jTy R) (ho : jcl 176 o = 12) (hd : 2 ≤ (d + 1)) {z : (jH) ⊕ (jH)} (K : fM_qDropsToBracket_l0_b R o h = some z) (HL : ∀ s : jH, z = .inl s → jEx X (d + 1) jc_226 0 [some (.ref o)] [] (176, R, s) Q) (HE0 : ∀ x : jH, z = .inr x → jEx X (d + 1) jc_226 35 [none] [] (176, R, x) Q) :
    jEx X (d + 1) jc_226 0 [some (.ref o)] [] (176, R, h) Q := by
  unfold fM_qDropsToBracket_l0_b at K
  refine jx_next (pc := 0) (pc' := 1) rfl rfl ?_
  refine jx_geti (pc := 1) rfl ho ?_
  refine jx_next (pc := 4) (pc' := 5) rfl rfl ?_
  refine jx_geti (pc := 5) rfl ho ?_
  refine jx_icle (pc := 8) rfl (fun hc1 => ?_) (fun hc1 => ?_)
  · replace K := (if_pos hc1).symm.trans K
    refine jx_next (pc := 11) (pc' := 12) rfl rfl ?_
    refine jx_getr (pc := 12) rfl ho ?_
    refine jx_next (pc := 15) (pc' := 16) rfl rfl ?_
    refine jx_geti (pc := 16) rfl ho ?_
    refine jx_next (pc := 19) (pc' := 20) rfl rfl ?_
    refine jx_next (pc := 20) (pc' := 21) rfl rfl ?_
    obtain ⟨hg2, K⟩ := jguard K
    refine jx_iald (pc := 21) rfl (jtR hT ho (k := 81) (c := 20) rfl) hg2 ?_
    refine jx_calls (pc := 22) rfl (Nat.le_of_ble_eq_true rfl) (Nat.le_of_ble_eq_true rfl) ?_
    refine kM_qIsBracket  (by omega) rfl ?_
    refine jx_ifne (pc := 25) rfl (fun hc3 => ?_) (fun hc3 => ?_)
    · replace K := (if_pos hc3).symm.trans K
      refine jx_next (pc := 28) (pc' := 29) rfl rfl ?_
      refine jx_callv (pc := 29) (o := o) (rest := []) rfl ⟨by decide, by decide⟩ rfl ho (Nat.le_of_ble_eq_true rfl) ?_
      obtain ⟨z4, hz_z4, K⟩ := Option.bind_eq_some_iff.mp K
      refine kM_qDrops hT ho (by omega) hz_z4 ?_
      refine jx_next (pc := 32) (pc' := 0) rfl rfl ?_
      obtain rfl := Option.some.inj K
      refine jx_le (pl' := [some (.ref o)]) (jle_v jle_nil) ?_
      exact HL _ rfl
    · replace K := (if_neg hc3).symm.trans K
      obtain rfl := Option.some.inj K
      refine jx_le (pl' := [none]) (jle_n jle_nil) ?_
      exact HE0 _ rfl
  · replace K := (if_neg hc1).symm.trans K
    obtain rfl := Option.some.inj K
    refine jx_le (pl' := [none]) (jle_n jle_nil) ?_
    exact HE0 _ rfl
theorem kM_qDropsToBracket_l0_w {X : jX} {d : Nat} {R : jR} {Q : Option Value → jS → Prop} {o : Nat} (hT : jTy R) (ho : jcl 176 o = 12) (hd : 2 ≤ (d + 1)) {s : jH} {x : jH} (K : jlim (fM_qDropsToBracket_l0 R o) s = some x) (HE : jEx X (d + 1) jc_226 35 [none] [] (176, R, x) Q) :
    jEx X (d + 1) jc_226 0 [some (.ref o)] [] (176, R, s) Q := by
  refine jlim_ok (G := fun s : jH => jEx X (d + 1) jc_226 0 [some (.ref o)] [] (176, R, s) Q) (GX := fun x : jH => jEx X (d + 1) jc_226 35 [none] [] (176, R, x) Q) (fun s z hz HL HE => ?_) K HE
  exact kM_qDropsToBracket_l0_b hT ho hd hz HL HE
/-- AndGuestModel.qDropsToBracket()V -/
noncomputable def fM_qDropsToBracket (R : jR) (o : Nat) (h : jH) : Option jH :=
  (Option.bind (jlim (fM_qDropsToBracket_l0 R o) h) (fun (x5 : jH) =>
  some x5))
theorem kM_qDropsToBracket {X : jX} {d : Nat} {R : jR} {Q : Option Value → jS → Prop} {o : Nat} {h : jH} (hT : jTy R) (ho : jcl 176 o = 12) (hd : 2 ≤ d) {z : jH} (K : fM_qDropsToBracket R o h = some z) (HQ : Q none (176, R, z)) :
    jCa X d 226 [.ref o] (176, R, h) Q := by
  obtain ⟨d, rfl⟩ : ∃ d9, d = d9 + 1 := ⟨d - 1, by omega⟩
  unfold fM_qDropsToBracket at K
  refine jCa_of (es := jc_226) (pl := [some (.ref o)]) (M := jm_226) rfl rfl rfl rfl ?_
  refine jx_le (pl' := [some (.ref o)]) (jle_v jle_nil) ?_
  obtain ⟨x5, hz_x5, K⟩ := Option.bind_eq_some_iff.mp K
  refine kM_qDropsToBracket_l0_w hT ho hd hz_x5 ?_
  obtain rfl := Option.some.inj K
  exact jx_ret (pc := 35) rfl rfl HQ
/-- AndGuestModel.qIsOn(I)Z -/
noncomputable def fM_qIsOn (R : jR) (o : Nat) (v1 : Int32) (h : jH) : Option Int32 :=
  (if 0 < (h.1 o 82) then
  (if jin ((h.1 o 82) - 1) (jsh (R o 81)).2 then
  (if (h.1 (R o 81) ((h.1 o 82) - 1).toNatClampNeg) = v1 then
  some (1 : Int32)
  else
  some (0 : Int32))
  else none)
  else
  some (0 : Int32))
theorem kM_qIsOn {X : jX} {d : Nat} {R : jR} {Q : Option Value → jS → Prop} {o : Nat} {v1 : Int32} {h : jH} (hT : jTy R) (ho : jcl 176 o = 12) (hd : 0 ≤ d) {z : Int32} (K : fM_qIsOn R o v1 h = some z) (HQ : Q (some (.int z)) (176, R, h)) :
    jCa X d 227 [.ref o, .int v1] (176, R, h) Q := by
  unfold fM_qIsOn at K
  refine jCa_of (es := jc_227) (pl := [some (.ref o), some (.int v1)]) (M := jm_227) rfl rfl rfl rfl ?_
  refine jx_next (pc := 0) (pc' := 1) rfl rfl ?_
  refine jx_geti (pc := 1) rfl ho ?_
  refine jx_ifle (pc := 4) rfl (fun hc1 => ?_) (fun hc1 => ?_)
  · replace K := (if_pos hc1).symm.trans K
    refine jx_next (pc := 7) (pc' := 8) rfl rfl ?_
    refine jx_getr (pc := 8) rfl ho ?_
    refine jx_next (pc := 11) (pc' := 12) rfl rfl ?_
    refine jx_geti (pc := 12) rfl ho ?_
    refine jx_next (pc := 15) (pc' := 16) rfl rfl ?_
    refine jx_next (pc := 16) (pc' := 17) rfl rfl ?_
    obtain ⟨hg2, K⟩ := jguard K
    refine jx_iald (pc := 17) rfl (jtR hT ho (k := 81) (c := 20) rfl) hg2 ?_
    refine jx_next (pc := 18) (pc' := 19) rfl rfl ?_
    refine jx_icne (pc := 19) rfl (fun hc3 => ?_) (fun hc3 => ?_)
    · replace K := (if_pos hc3).symm.trans K
      refine jx_next (pc := 22) (pc' := 23) rfl rfl ?_
      refine jx_next (pc := 23) (pc' := 27) rfl rfl ?_
      obtain rfl := Option.some.inj K
      exact jx_zret (pc := 27) rfl (Or.inr rfl) HQ
    · replace K := (if_neg hc3).symm.trans K
      refine jx_next (pc := 26) (pc' := 27) rfl rfl ?_
      obtain rfl := Option.some.inj K
      exact jx_zret (pc := 27) rfl (Or.inl rfl) HQ
  · replace K := (if_neg hc1).symm.trans K
    refine jx_next (pc := 26) (pc' := 27) rfl rfl ?_
    obtain rfl := Option.some.inj K
    exact jx_zret (pc := 27) rfl (Or.inl rfl) HQ
