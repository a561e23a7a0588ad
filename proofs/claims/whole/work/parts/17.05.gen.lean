/-- AndGuest$Choices.safeSet()I -/
noncomputable def fCh_safeSet  (h : jH) : Int32 :=
  (h.1 96 2 : Int32)
theorem kCh_safeSet {X : jX} {dd : Nat} {p d : Nat} {q : Nat → Nat} {Q : Option Value → jS → Prop}  {h : jH} (hP : jOK p d q)  (hd : 0 ≤ dd) {z : Int32} (K : fCh_safeSet  h = z) (HQ : Q (some (.int z)) (176, jRf p d q, h)) :
    jCa X dd 130 [.ref 96] (176, jRf p d q, h) Q := by
  unfold fCh_safeSet at K
  refine jCa_of (es := jc_130) (pl := [some (.ref 96)]) (M := jm_130) rfl rfl rfl rfl ?_
  refine jx_next (pc := 0) (pc' := 1) rfl rfl ?_
  refine jx_geti (pc := 1) rfl jko_96 ?_
  obtain rfl := K
  exact jx_iret (pc := 4) rfl HQ
/-- AndGuest$Choices.safeOffence()I -/
noncomputable def fCh_safeOffence  (h : jH) : Int32 :=
  (h.1 96 3 : Int32)
theorem kCh_safeOffence {X : jX} {dd : Nat} {p d : Nat} {q : Nat → Nat} {Q : Option Value → jS → Prop}  {h : jH} (hP : jOK p d q)  (hd : 0 ≤ dd) {z : Int32} (K : fCh_safeOffence  h = z) (HQ : Q (some (.int z)) (176, jRf p d q, h)) :
    jCa X dd 131 [.ref 96] (176, jRf p d q, h) Q := by
  unfold fCh_safeOffence at K
  refine jCa_of (es := jc_131) (pl := [some (.ref 96)]) (M := jm_131) rfl rfl rfl rfl ?_
  refine jx_next (pc := 0) (pc' := 1) rfl rfl ?_
  refine jx_geti (pc := 1) rfl jko_96 ?_
  obtain rfl := K
  exact jx_iret (pc := 4) rfl HQ
/-- AndGuest$Choices.safeJoy()I -/
noncomputable def fCh_safeJoy  (h : jH) : Int32 :=
  (h.1 96 4 : Int32)
theorem kCh_safeJoy {X : jX} {dd : Nat} {p d : Nat} {q : Nat → Nat} {Q : Option Value → jS → Prop}  {h : jH} (hP : jOK p d q)  (hd : 0 ≤ dd) {z : Int32} (K : fCh_safeJoy  h = z) (HQ : Q (some (.int z)) (176, jRf p d q, h)) :
    jCa X dd 132 [.ref 96] (176, jRf p d q, h) Q := by
  unfold fCh_safeJoy at K
  refine jCa_of (es := jc_132) (pl := [some (.ref 96)]) (M := jm_132) rfl rfl rfl rfl ?_
  refine jx_next (pc := 0) (pc' := 1) rfl rfl ?_
  refine jx_geti (pc := 1) rfl jko_96 ?_
  obtain rfl := K
  exact jx_iret (pc := 4) rfl HQ
/-- AndGuest.safe(I)I -/
noncomputable def fA_safe (p : Nat) (v1 : Int32) (h : jH) : Option (Int32 × jH) :=
  (if (h.1 1 12) = 0 then
  some ((-1), h)
  else
  (if v1 < 0 then
  some ((-1), h)
  else
  (if 2 < v1 then
  some ((-1), h)
  else
  (Option.bind (fCh_findSafe p h) (fun (z4 : jH) =>
  (if v1 = 0 then
  some ((fCh_safeSet z4), z4)
  else
  (if v1 = 1 then
  some ((fCh_safeOffence z4), z4)
  else
  some ((fCh_safeJoy z4), z4))))))))
theorem kA_safe {X : jX} {dd : Nat} {p d : Nat} {q : Nat → Nat} {Q : Option Value → jS → Prop} {v1 : Int32} {h : jH} (hP : jOK p d q)  (hd : 3 ≤ dd) {z : Int32 × jH} (K : fA_safe p v1 h = some z) (HQ : Q (some (.int z.1)) (176, jRf p d q, z.2)) :
    jCa X dd 126 [.ref 1, .int v1] (176, jRf p d q, h) Q := by
  obtain ⟨dd, rfl⟩ : ∃ d9, dd = d9 + 1 := ⟨dd - 1, by omega⟩
  unfold fA_safe at K
  refine jCa_of (es := jc_126) (pl := [some (.ref 1), some (.int v1)]) (M := jm_126) rfl rfl rfl rfl ?_
  refine jx_next (pc := 0) (pc' := 1) rfl rfl ?_
  refine jx_getz (pc := 1) rfl jko_1 ?_
  refine jx_ifeq (pc := 4) rfl (fun hc1 => ?_) (fun hc1 => ?_)
  · replace K := (if_pos hc1).symm.trans K
    refine jx_next (pc := 16) (pc' := 17) rfl rfl ?_
    obtain rfl := Option.some.inj K
    exact jx_iret (pc := 17) rfl HQ
  · replace K := (if_neg hc1).symm.trans K
    refine jx_next (pc := 7) (pc' := 8) rfl rfl ?_
    refine jx_iflt (pc := 8) rfl (fun hc2 => ?_) (fun hc2 => ?_)
    · replace K := (if_pos hc2).symm.trans K
      refine jx_next (pc := 16) (pc' := 17) rfl rfl ?_
      obtain rfl := Option.some.inj K
      exact jx_iret (pc := 17) rfl HQ
    · replace K := (if_neg hc2).symm.trans K
      refine jx_next (pc := 11) (pc' := 12) rfl rfl ?_
      refine jx_next (pc := 12) (pc' := 13) rfl rfl ?_
      refine jx_icle (pc := 13) rfl (fun hc3 => ?_) (fun hc3 => ?_)
      · replace K := (if_pos hc3).symm.trans K
        refine jx_next (pc := 16) (pc' := 17) rfl rfl ?_
        obtain rfl := Option.some.inj K
        exact jx_iret (pc := 17) rfl HQ
      · replace K := (if_neg hc3).symm.trans K
        refine jx_next (pc := 18) (pc' := 19) rfl rfl ?_
        refine jx_getr2 (pc := 19) rfl jko_1 jr_1_9 ?_
        refine jx_callv (pc := 22) (o := 96) (rest := []) rfl ⟨by decide, by decide⟩ rfl jko_96 (Nat.le_of_ble_eq_true rfl) ?_
        obtain ⟨z4, hz_z4, K⟩ := Option.bind_eq_some_iff.mp K
        refine kCh_findSafe hP (by omega) hz_z4 ?_
        refine jx_next (pc := 25) (pc' := 26) rfl rfl ?_
        refine jx_lsw (pc := 26) rfl ?_
        refine jx_sw1 (fun hc9 => ?_) (fun hc9 => ?_)
        · replace K := (if_pos hc9).symm.trans K
          refine jx_next (pc := 52) (pc' := 53) rfl rfl ?_
          refine jx_getr2 (pc := 53) rfl jko_1 jr_1_9 ?_
          refine jx_callv (pc := 56) (o := 96) (rest := []) rfl ⟨by decide, by decide⟩ rfl jko_96 (Nat.le_of_ble_eq_true rfl) ?_
          refine kCh_safeSet hP (by omega) rfl ?_
          obtain rfl := Option.some.inj K
          exact jx_iret (pc := 59) rfl HQ
        · replace K := (if_neg hc9).symm.trans K
          refine jx_sw1 (fun hc8 => ?_) (fun hc8 => ?_)
          · replace K := (if_pos hc8).symm.trans K
            refine jx_next (pc := 60) (pc' := 61) rfl rfl ?_
            refine jx_getr2 (pc := 61) rfl jko_1 jr_1_9 ?_
            refine jx_callv (pc := 64) (o := 96) (rest := []) rfl ⟨by decide, by decide⟩ rfl jko_96 (Nat.le_of_ble_eq_true rfl) ?_
            refine kCh_safeOffence hP (by omega) rfl ?_
            obtain rfl := Option.some.inj K
            exact jx_iret (pc := 67) rfl HQ
          · replace K := (if_neg hc8).symm.trans K
            refine jx_sw0 ?_
            refine jx_next (pc := 68) (pc' := 69) rfl rfl ?_
            refine jx_getr2 (pc := 69) rfl jko_1 jr_1_9 ?_
            refine jx_callv (pc := 72) (o := 96) (rest := []) rfl ⟨by decide, by decide⟩ rfl jko_96 (Nat.le_of_ble_eq_true rfl) ?_
            refine kCh_safeJoy hP (by omega) rfl ?_
            obtain rfl := Option.some.inj K
            exact jx_iret (pc := 75) rfl HQ
/-- AndGuest$Choices.bestWorth()J -/
noncomputable def fCh_bestWorth  (h : jH) : Int64 :=
  (h.2 96 1 : Int64)
theorem kCh_bestWorth {X : jX} {dd : Nat} {p d : Nat} {q : Nat → Nat} {Q : Option Value → jS → Prop}  {h : jH} (hP : jOK p d q)  (hd : 0 ≤ dd) {z : Int64} (K : fCh_bestWorth  h = z) (HQ : Q (some (.long z)) (176, jRf p d q, h)) :
    jCa X dd 134 [.ref 96] (176, jRf p d q, h) Q := by
  unfold fCh_bestWorth at K
  refine jCa_of (es := jc_134) (pl := [some (.ref 96)]) (M := jm_134) rfl rfl rfl rfl ?_
  refine jx_next (pc := 0) (pc' := 1) rfl rfl ?_
  refine jx_getl (pc := 1) rfl jko_96 ?_
  obtain rfl := K
  exact jx_ret (pc := 4) rfl rfl HQ
/-- AndGuest.leave(I)I -/
noncomputable def fA_leave (p : Nat) (v1 : Int32) (h : jH) : Option (Int32 × jH) :=
  (if (fA_isGuest p v1 h) = 0 then
  some ((-1), h)
  else
  (Option.bind (fSd_isAsked 11 v1 h) (fun (z3 : Int32) =>
  (if z3 = 0 then
  (Option.bind (fCh_findBest p 0 h) (fun (z5 : Int32 × jH) =>
  (Option.bind (fCh_findBest p (1 <<< (v1 &&& 31)) z5.2) (fun (z7 : Int32 × jH) =>
  some (((fCh_bestWorth z5.2) - (fCh_bestWorth z7.2)).toInt32, z7.2)))))
  else
  some ((-1), h)))))
theorem kA_leave {X : jX} {dd : Nat} {p d : Nat} {q : Nat → Nat} {Q : Option Value → jS → Prop} {v1 : Int32} {h : jH} (hP : jOK p d q)  (hd : 7 ≤ dd) {z : Int32 × jH} (K : fA_leave p v1 h = some z) (HQ : Q (some (.int z.1)) (176, jRf p d q, z.2)) :
    jCa X dd 133 [.ref 1, .int v1] (176, jRf p d q, h) Q := by
  obtain ⟨dd, rfl⟩ : ∃ d9, dd = d9 + 1 := ⟨dd - 1, by omega⟩
  unfold fA_leave at K
  refine jCa_of (es := jc_133) (pl := [some (.ref 1), some (.int v1), none, none]) (M := jm_133) rfl rfl rfl rfl ?_
  refine jx_next (pc := 0) (pc' := 1) rfl rfl ?_
  refine jx_next (pc := 1) (pc' := 2) rfl rfl ?_
  refine jx_callv (pc := 2) (o := 1) (rest := []) rfl ⟨by decide, by decide⟩ rfl jko_1 (Nat.le_of_ble_eq_true rfl) ?_
  refine kA_isGuest hP (by omega) rfl ?_
  refine jx_ifeq (pc := 5) rfl (fun hc2 => ?_) (fun hc2 => ?_)
  · replace K := (if_pos hc2).symm.trans K
    refine jx_next (pc := 19) (pc' := 20) rfl rfl ?_
    obtain rfl := Option.some.inj K
    exact jx_iret (pc := 20) rfl HQ
  · replace K := (if_neg hc2).symm.trans K
    refine jx_next (pc := 8) (pc' := 9) rfl rfl ?_
    refine jx_getr2 (pc := 9) rfl jko_1 jr_1_5 ?_
    refine jx_next (pc := 12) (pc' := 13) rfl rfl ?_
    refine jx_callv (pc := 13) (o := 11) (rest := []) rfl ⟨by decide, by decide⟩ rfl jko_11 (Nat.le_of_ble_eq_true rfl) ?_
    obtain ⟨z3, hz_z3, K⟩ := Option.bind_eq_some_iff.mp K
    refine kSd_isAsked hP jko_11 (by omega) hz_z3 ?_
    refine jx_ifeq (pc := 16) rfl (fun hc4 => ?_) (fun hc4 => ?_)
    · replace K := (if_pos hc4).symm.trans K
      refine jx_next (pc := 21) (pc' := 22) rfl rfl ?_
      refine jx_getr2 (pc := 22) rfl jko_1 jr_1_9 ?_
      refine jx_next (pc := 25) (pc' := 26) rfl rfl ?_
      refine jx_callv (pc := 26) (o := 96) (rest := []) rfl ⟨by decide, by decide⟩ rfl jko_96 (Nat.le_of_ble_eq_true rfl) ?_
      obtain ⟨z5, hz_z5, K⟩ := Option.bind_eq_some_iff.mp K
      refine kCh_findBest hP (by omega) hz_z5 ?_
      refine jx_next (pc := 29) (pc' := 30) rfl rfl ?_
      refine jx_next (pc := 30) (pc' := 31) rfl rfl ?_
      refine jx_getr2 (pc := 31) rfl jko_1 jr_1_9 ?_
      refine jx_callv (pc := 34) (o := 96) (rest := []) rfl ⟨by decide, by decide⟩ rfl jko_96 (Nat.le_of_ble_eq_true rfl) ?_
      refine kCh_bestWorth hP (by omega) rfl ?_
      refine jx_stln (pc := 37) (p2 := [some (.ref 1), some (.int v1), some (.long (fCh_bestWorth z5.2)), none]) rfl (jlt rfl) rfl ?_
      refine jx_next (pc := 38) (pc' := 39) rfl rfl ?_
      refine jx_getr2 (pc := 39) rfl jko_1 jr_1_9 ?_
      refine jx_next (pc := 42) (pc' := 43) rfl rfl ?_
      refine jx_next (pc := 43) (pc' := 44) rfl rfl ?_
      refine jx_next (pc := 44) (pc' := 45) rfl rfl ?_
      refine jx_callv (pc := 45) (o := 96) (rest := []) rfl ⟨by decide, by decide⟩ rfl jko_96 (Nat.le_of_ble_eq_true rfl) ?_
      obtain ⟨z7, hz_z7, K⟩ := Option.bind_eq_some_iff.mp K
      refine kCh_findBest hP (by omega) hz_z7 ?_
      refine jx_next (pc := 48) (pc' := 49) rfl rfl ?_
      refine jx_next (pc := 49) (pc' := 50) rfl rfl ?_
      refine jx_next (pc := 50) (pc' := 51) rfl rfl ?_
      refine jx_getr2 (pc := 51) rfl jko_1 jr_1_9 ?_
      refine jx_callv (pc := 54) (o := 96) (rest := [.long (fCh_bestWorth z5.2)]) rfl ⟨by decide, by decide⟩ rfl jko_96 (Nat.le_of_ble_eq_true rfl) ?_
      refine kCh_bestWorth hP (by omega) rfl ?_
      refine jx_next (pc := 57) (pc' := 58) rfl rfl ?_
      refine jx_next (pc := 58) (pc' := 59) rfl rfl ?_
      obtain rfl := Option.some.inj K
      exact jx_iret (pc := 59) rfl HQ
    · replace K := (if_neg hc4).symm.trans K
      refine jx_next (pc := 19) (pc' := 20) rfl rfl ?_
      obtain rfl := Option.some.inj K
      exact jx_iret (pc := 20) rfl HQ
noncomputable def fCh_findEnough_l4_j74 (p : Nat) (v1 : Int32) (v2 : Int32) (v3 : Int32) (h : jH) : Option ((Int32 × Int32) ⊕ (Int32)) :=
  some (.inl (v2, v3 + 1))
theorem kCh_findEnough_l4_j74 {X : jX} {dd : Nat} {p d : Nat} {q : Nat → Nat} {Q : Option Value → jS → Prop} {v1 : Int32} {v2 : Int32} {v3 : Int32} {h : jH} (hP : jOK p d q)  (hd : 3 ≤ (dd + 1)) {z : (Int32 × Int32) ⊕ (Int32)} (K : fCh_findEnough_l4_j74 p v1 v2 v3 h = some z) (HL : ∀ s : Int32 × Int32, z = .inl s → jEx X (dd + 1) jc_136 4 [some (.ref 96), some (.int v1), some (.int s.1), some (.int s.2), none] [] (176, jRf p d q, h) Q) (HE0 : ∀ x : Int32, z = .inr x → jEx X (dd + 1) jc_136 80 [none, none, some (.int x), none, none] [] (176, jRf p d q, h) Q) :
    jEx X (dd + 1) jc_136 74 [some (.ref 96), some (.int v1), some (.int v2), some (.int v3), none] [] (176, jRf p d q, h) Q := by
  unfold fCh_findEnough_l4_j74 at K
  refine jx_inc (pc := 74) (x := v3) (p2 := [some (.ref 96), some (.int v1), some (.int v2), some (.int (v3 + 1)), none]) rfl rfl (jlt rfl) rfl ?_
  refine jx_next (pc := 77) (pc' := 4) rfl rfl ?_
  obtain rfl := Option.some.inj K
  refine jx_le (pl' := [some (.ref 96), some (.int v1), some (.int v2), some (.int (v3 + 1)), none]) (jle_v (jle_v (jle_v (jle_v (jle_n jle_nil))))) ?_
  exact HL (v2, v3 + 1) rfl
noncomputable def fCh_findEnough_l4_j39 (p : Nat) (v1 : Int32) (v2 : Int32) (v3 : Int32) (s0 : Int32) (h : jH) : Option ((Int32 × Int32) ⊕ (Int32)) :=
  (if s0 = 0 then
  fCh_findEnough_l4_j74  p v1 v2 v3 h
  else
  (Option.bind (fPy_canAsk p v3 h) (fun (z6 : Int32) =>
  (if z6 = 0 then
  fCh_findEnough_l4_j74  p v1 v2 v3 h
  else
  (Option.bind (fPy_meanTenths p v3 h) (fun (z8 : Int32) =>
  (if z8 < (v1 * 10) then
  fCh_findEnough_l4_j74  p v1 v2 v3 h
  else
  fCh_findEnough_l4_j74  p v1 v3 v3 h)))))))
theorem kCh_findEnough_l4_j39 {X : jX} {dd : Nat} {p d : Nat} {q : Nat → Nat} {Q : Option Value → jS → Prop} {v1 : Int32} {v2 : Int32} {v3 : Int32} {s0 : Int32} {h : jH} (hP : jOK p d q)  (hd : 3 ≤ (dd + 1)) {z : (Int32 × Int32) ⊕ (Int32)} (K : fCh_findEnough_l4_j39 p v1 v2 v3 s0 h = some z) (HL : ∀ s : Int32 × Int32, z = .inl s → jEx X (dd + 1) jc_136 4 [some (.ref 96), some (.int v1), some (.int s.1), some (.int s.2), none] [] (176, jRf p d q, h) Q) (HE0 : ∀ x : Int32, z = .inr x → jEx X (dd + 1) jc_136 80 [none, none, some (.int x), none, none] [] (176, jRf p d q, h) Q) :
    jEx X (dd + 1) jc_136 39 [some (.ref 96), some (.int v1), some (.int v2), some (.int v3), none] [.int s0] (176, jRf p d q, h) Q := by
  unfold fCh_findEnough_l4_j39 at K
  refine jx_sti (pc := 39) (p2 := [some (.ref 96), some (.int v1), some (.int v2), some (.int v3), some (.int s0)]) rfl (jlt rfl) rfl ?_
  refine jx_next (pc := 41) (pc' := 43) rfl rfl ?_
  refine jx_ifeq (pc := 43) rfl (fun hc5 => ?_) (fun hc5 => ?_)
  · replace K := (if_pos hc5).symm.trans K
    refine jx_le (pl' := [some (.ref 96), some (.int v1), some (.int v2), some (.int v3), none]) (jle_v (jle_v (jle_v (jle_v (jle_n jle_nil))))) ?_
    exact kCh_findEnough_l4_j74 hP  hd K HL HE0
  · replace K := (if_neg hc5).symm.trans K
    refine jx_next (pc := 46) (pc' := 47) rfl rfl ?_
    refine jx_getr2 (pc := 47) rfl jko_96 jr_11_0 ?_
    refine jx_next (pc := 50) (pc' := 51) rfl rfl ?_
    refine jx_callv (pc := 51) (o := 79) (rest := []) rfl ⟨by decide, by decide⟩ rfl jko_79 (Nat.le_of_ble_eq_true rfl) ?_
    obtain ⟨z6, hz_z6, K⟩ := Option.bind_eq_some_iff.mp K
    refine kPy_canAsk hP (by omega) hz_z6 ?_
    refine jx_ifeq (pc := 54) rfl (fun hc7 => ?_) (fun hc7 => ?_)
    · replace K := (if_pos hc7).symm.trans K
      refine jx_le (pl' := [some (.ref 96), some (.int v1), some (.int v2), some (.int v3), none]) (jle_v (jle_v (jle_v (jle_v (jle_n jle_nil))))) ?_
      exact kCh_findEnough_l4_j74 hP  hd K HL HE0
    · replace K := (if_neg hc7).symm.trans K
      refine jx_next (pc := 57) (pc' := 58) rfl rfl ?_
      refine jx_getr2 (pc := 58) rfl jko_96 jr_11_0 ?_
      refine jx_next (pc := 61) (pc' := 62) rfl rfl ?_
      refine jx_callv (pc := 62) (o := 79) (rest := []) rfl ⟨by decide, by decide⟩ rfl jko_79 (Nat.le_of_ble_eq_true rfl) ?_
      obtain ⟨z8, hz_z8, K⟩ := Option.bind_eq_some_iff.mp K
      refine kPy_meanTenths hP (by omega) hz_z8 ?_
      refine jx_next (pc := 65) (pc' := 66) rfl rfl ?_
      refine jx_next (pc := 66) (pc' := 68) rfl rfl ?_
      refine jx_next (pc := 68) (pc' := 69) rfl rfl ?_
      refine jx_iclt (pc := 69) rfl (fun hc9 => ?_) (fun hc9 => ?_)
      · replace K := (if_pos hc9).symm.trans K
        refine jx_le (pl' := [some (.ref 96), some (.int v1), some (.int v2), some (.int v3), none]) (jle_v (jle_v (jle_v (jle_v (jle_n jle_nil))))) ?_
        exact kCh_findEnough_l4_j74 hP  hd K HL HE0
      · replace K := (if_neg hc9).symm.trans K
        refine jx_next (pc := 72) (pc' := 73) rfl rfl ?_
        refine jx_stin (pc := 73) (p2 := [some (.ref 96), some (.int v1), some (.int v3), some (.int v3), some (.int s0)]) rfl (jlt rfl) rfl ?_
        refine jx_le (pl' := [some (.ref 96), some (.int v1), some (.int v3), some (.int v3), none]) (jle_v (jle_v (jle_v (jle_v (jle_n jle_nil))))) ?_
        exact kCh_findEnough_l4_j74 hP  hd K HL HE0
noncomputable def fCh_findEnough_l4_j34 (p : Nat) (v1 : Int32) (v2 : Int32) (v3 : Int32) (h : jH) : Option ((Int32 × Int32) ⊕ (Int32)) :=
  fCh_findEnough_l4_j39  p v1 v2 v3 1 h
theorem kCh_findEnough_l4_j34 {X : jX} {dd : Nat} {p d : Nat} {q : Nat → Nat} {Q : Option Value → jS → Prop} {v1 : Int32} {v2 : Int32} {v3 : Int32} {h : jH} (hP : jOK p d q)  (hd : 3 ≤ (dd + 1)) {z : (Int32 × Int32) ⊕ (Int32)} (K : fCh_findEnough_l4_j34 p v1 v2 v3 h = some z) (HL : ∀ s : Int32 × Int32, z = .inl s → jEx X (dd + 1) jc_136 4 [some (.ref 96), some (.int v1), some (.int s.1), some (.int s.2), none] [] (176, jRf p d q, h) Q) (HE0 : ∀ x : Int32, z = .inr x → jEx X (dd + 1) jc_136 80 [none, none, some (.int x), none, none] [] (176, jRf p d q, h) Q) :
    jEx X (dd + 1) jc_136 34 [some (.ref 96), some (.int v1), some (.int v2), some (.int v3), none] [] (176, jRf p d q, h) Q := by
  unfold fCh_findEnough_l4_j34 at K
  refine jx_next (pc := 34) (pc' := 35) rfl rfl ?_
  refine jx_next (pc := 35) (pc' := 39) rfl rfl ?_
  refine jx_le (pl' := [some (.ref 96), some (.int v1), some (.int v2), some (.int v3), none]) (jle_v (jle_v (jle_v (jle_v (jle_n jle_nil))))) ?_
  exact kCh_findEnough_l4_j39 hP  hd K HL HE0
noncomputable def fCh_findEnough_l4_b (p : Nat) (v1 : Int32) (v2 : Int32) (v3 : Int32) (h : jH) : Option ((Int32 × Int32) ⊕ (Int32)) :=
  (if v3 < (fPn_allSets p h) then
  (if v2 = (-1) then
  fCh_findEnough_l4_j34  p v1 v2 v3 h
  else
  (if (fIn_bitCount v3) < (fIn_bitCount v2) then
  fCh_findEnough_l4_j34  p v1 v2 v3 h
  else
  fCh_findEnough_l4_j39  p v1 v2 v3 0 h))
  else
  some (.inr v2))
noncomputable def fCh_findEnough_l4 (p : Nat) (v1 : Int32) (h : jH) : (Int32 × Int32) → Option ((Int32 × Int32) ⊕ (Int32)) :=
  fun (s : Int32 × Int32) => fCh_findEnough_l4_b p v1 s.1 s.2 h
theorem kCh_findEnough_l4_b {X : jX} {dd : Nat} {p d : Nat} {q : Nat → Nat} {Q : Option Value → jS → Prop} {v1 : Int32} {v2 : Int32} {v3 : Int32} {h : jH} (hP : jOK p d q)  (hd : 3 ≤ (dd + 1)) {z : (Int32 × Int32) ⊕ (Int32)} (K : fCh_findEnough_l4_b p v1 v2 v3 h = some z) (HL : ∀ s : Int32 × Int32, z = .inl s → jEx X (dd + 1) jc_136 4 [some (.ref 96), some (.int v1), some (.int s.1), some (.int s.2), none] [] (176, jRf p d q, h) Q) (HE0 : ∀ x : Int32, z = .inr x → jEx X (dd + 1) jc_136 80 [none, none, some (.int x), none, none] [] (176, jRf p d q, h) Q) :
    jEx X (dd + 1) jc_136 4 [some (.ref 96), some (.int v1), some (.int v2), some (.int v3), none] [] (176, jRf p d q, h) Q := by
  unfold fCh_findEnough_l4_b at K
  refine jx_next (pc := 4) (pc' := 5) rfl rfl ?_
  refine jx_next (pc := 5) (pc' := 6) rfl rfl ?_
  refine jx_getr2 (pc := 6) rfl jko_96 jr_11_0 ?_
  refine jx_callv (pc := 9) (o := 79) (rest := [.int v3]) rfl ⟨by decide, by decide⟩ rfl jko_79 (Nat.le_of_ble_eq_true rfl) ?_
  refine kPy_plan hP (by omega) rfl ?_
  refine jx_callv (pc := 12) (o := p) (rest := [.int v3]) rfl ⟨by decide, by decide⟩ rfl hP.1 (Nat.le_of_ble_eq_true rfl) ?_
  refine kPn_allSets hP hP.1 (by omega) rfl ?_
  refine jx_icge (pc := 15) rfl (fun hc3 => ?_) (fun hc3 => ?_)
  · replace K := (if_pos hc3).symm.trans K
    refine jx_next (pc := 18) (pc' := 19) rfl rfl ?_
    refine jx_next (pc := 19) (pc' := 20) rfl rfl ?_
    refine jx_iceq (pc := 20) rfl (fun hc4 => ?_) (fun hc4 => ?_)
    · replace K := (if_pos hc4).symm.trans K
      refine jx_le (pl' := [some (.ref 96), some (.int v1), some (.int v2), some (.int v3), none]) (jle_v (jle_v (jle_v (jle_v (jle_n jle_nil))))) ?_
      exact kCh_findEnough_l4_j34 hP  hd K HL HE0
    · replace K := (if_neg hc4).symm.trans K
      refine jx_next (pc := 23) (pc' := 24) rfl rfl ?_
      refine jx_calls (pc := 24) rfl (Nat.le_of_ble_eq_true rfl) (Nat.le_of_ble_eq_true rfl) ?_
      refine kIn_bitCount  (by omega) rfl ?_
      refine jx_next (pc := 27) (pc' := 28) rfl rfl ?_
      refine jx_calls (pc := 28) rfl (Nat.le_of_ble_eq_true rfl) (Nat.le_of_ble_eq_true rfl) ?_
      refine kIn_bitCount  (by omega) rfl ?_
      refine jx_icge (pc := 31) rfl (fun hc12 => ?_) (fun hc12 => ?_)
      · replace K := (if_pos hc12).symm.trans K
        refine jx_le (pl' := [some (.ref 96), some (.int v1), some (.int v2), some (.int v3), none]) (jle_v (jle_v (jle_v (jle_v (jle_n jle_nil))))) ?_
        exact kCh_findEnough_l4_j34 hP  hd K HL HE0
      · replace K := (if_neg hc12).symm.trans K
        refine jx_next (pc := 38) (pc' := 39) rfl rfl ?_
        refine jx_le (pl' := [some (.ref 96), some (.int v1), some (.int v2), some (.int v3), none]) (jle_v (jle_v (jle_v (jle_v (jle_n jle_nil))))) ?_
        exact kCh_findEnough_l4_j39 hP  hd K HL HE0
  · replace K := (if_neg hc3).symm.trans K
    obtain rfl := Option.some.inj K
    refine jx_le (pl' := [none, none, some (.int v2), none, none]) (jle_n (jle_n (jle_v (jle_n (jle_n jle_nil))))) ?_
    exact HE0 _ rfl
theorem kCh_findEnough_l4_w {X : jX} {dd : Nat} {p d : Nat} {q : Nat → Nat} {Q : Option Value → jS → Prop} {v1 : Int32} {h : jH} (hP : jOK p d q)  (hd : 3 ≤ (dd + 1)) {s : Int32 × Int32} {x : Int32} (K : jlim (fCh_findEnough_l4 p v1 h) s = some x) (HE : jEx X (dd + 1) jc_136 80 [none, none, some (.int x), none, none] [] (176, jRf p d q, h) Q) :
    jEx X (dd + 1) jc_136 4 [some (.ref 96), some (.int v1), some (.int s.1), some (.int s.2), none] [] (176, jRf p d q, h) Q := by
  refine jlim_ok (G := fun s : Int32 × Int32 => jEx X (dd + 1) jc_136 4 [some (.ref 96), some (.int v1), some (.int s.1), some (.int s.2), none] [] (176, jRf p d q, h) Q) (GX := fun x : Int32 => jEx X (dd + 1) jc_136 80 [none, none, some (.int x), none, none] [] (176, jRf p d q, h) Q) (fun s z hz HL HE => ?_) K HE
  exact kCh_findEnough_l4_b hP  hd hz HL HE
/-- AndGuest$Choices.findEnough(I)I -/
noncomputable def fCh_findEnough (p : Nat) (v1 : Int32) (h : jH) : Option Int32 :=
  (Option.bind (jlim (fCh_findEnough_l4  p v1 h) ((-1), 0)) (fun (x13 : Int32) =>
  some (x13 : Int32)))
theorem kCh_findEnough {X : jX} {dd : Nat} {p d : Nat} {q : Nat → Nat} {Q : Option Value → jS → Prop} {v1 : Int32} {h : jH} (hP : jOK p d q)  (hd : 3 ≤ dd) {z : Int32} (K : fCh_findEnough p v1 h = some z) (HQ : Q (some (.int z)) (176, jRf p d q, h)) :
    jCa X dd 136 [.ref 96, .int v1] (176, jRf p d q, h) Q := by
  obtain ⟨dd, rfl⟩ : ∃ d9, dd = d9 + 1 := ⟨dd - 1, by omega⟩
  unfold fCh_findEnough at K
  refine jCa_of (es := jc_136) (pl := [some (.ref 96), some (.int v1), none, none, none]) (M := jm_136) rfl rfl rfl rfl ?_
  refine jx_next (pc := 0) (pc' := 1) rfl rfl ?_
  refine jx_stin (pc := 1) (p2 := [some (.ref 96), some (.int v1), some (.int (-1)), none, none]) rfl (jlt rfl) rfl ?_
  refine jx_next (pc := 2) (pc' := 3) rfl rfl ?_
  refine jx_stin (pc := 3) (p2 := [some (.ref 96), some (.int v1), some (.int (-1)), some (.int 0), none]) rfl (jlt rfl) rfl ?_
  refine jx_le (pl' := [some (.ref 96), some (.int v1), some (.int (-1)), some (.int 0), none]) (jle_v (jle_v (jle_v (jle_v (jle_n jle_nil))))) ?_
  obtain ⟨x13, hz_x13, K⟩ := Option.bind_eq_some_iff.mp K
  refine kCh_findEnough_l4_w hP  hd hz_x13 ?_
  refine jx_next (pc := 80) (pc' := 81) rfl rfl ?_
  obtain rfl := Option.some.inj K
  exact jx_iret (pc := 81) rfl HQ
/-- AndGuest.enough(I)I -/
noncomputable def fA_enough (p : Nat) (v1 : Int32) (h : jH) : Option Int32 :=
  (if (h.1 1 12) = 0 then
  some ((-1) : Int32)
  else
  (if v1 < 0 then
  some ((-1) : Int32)
  else
  (if 32 < v1 then
  some ((-1) : Int32)
  else
  (Option.bind (fCh_findEnough p v1 h) (fun (z4 : Int32) =>
  some (z4 : Int32))))))
theorem kA_enough {X : jX} {dd : Nat} {p d : Nat} {q : Nat → Nat} {Q : Option Value → jS → Prop} {v1 : Int32} {h : jH} (hP : jOK p d q)  (hd : 4 ≤ dd) {z : Int32} (K : fA_enough p v1 h = some z) (HQ : Q (some (.int z)) (176, jRf p d q, h)) :
    jCa X dd 135 [.ref 1, .int v1] (176, jRf p d q, h) Q := by
  obtain ⟨dd, rfl⟩ : ∃ d9, dd = d9 + 1 := ⟨dd - 1, by omega⟩
  unfold fA_enough at K
  refine jCa_of (es := jc_135) (pl := [some (.ref 1), some (.int v1)]) (M := jm_135) rfl rfl rfl rfl ?_
  refine jx_next (pc := 0) (pc' := 1) rfl rfl ?_
  refine jx_getz (pc := 1) rfl jko_1 ?_
  refine jx_ifeq (pc := 4) rfl (fun hc1 => ?_) (fun hc1 => ?_)
  · replace K := (if_pos hc1).symm.trans K
    refine jx_next (pc := 17) (pc' := 18) rfl rfl ?_
    obtain rfl := Option.some.inj K
    exact jx_iret (pc := 18) rfl HQ
  · replace K := (if_neg hc1).symm.trans K
    refine jx_next (pc := 7) (pc' := 8) rfl rfl ?_
    refine jx_iflt (pc := 8) rfl (fun hc2 => ?_) (fun hc2 => ?_)
    · replace K := (if_pos hc2).symm.trans K
      refine jx_next (pc := 17) (pc' := 18) rfl rfl ?_
      obtain rfl := Option.some.inj K
      exact jx_iret (pc := 18) rfl HQ
    · replace K := (if_neg hc2).symm.trans K
      refine jx_next (pc := 11) (pc' := 12) rfl rfl ?_
      refine jx_next (pc := 12) (pc' := 14) rfl rfl ?_
      refine jx_icle (pc := 14) rfl (fun hc3 => ?_) (fun hc3 => ?_)
      · replace K := (if_pos hc3).symm.trans K
        refine jx_next (pc := 17) (pc' := 18) rfl rfl ?_
        obtain rfl := Option.some.inj K
        exact jx_iret (pc := 18) rfl HQ
      · replace K := (if_neg hc3).symm.trans K
        refine jx_next (pc := 19) (pc' := 20) rfl rfl ?_
        refine jx_getr2 (pc := 20) rfl jko_1 jr_1_9 ?_
        refine jx_next (pc := 23) (pc' := 24) rfl rfl ?_
        refine jx_callv (pc := 24) (o := 96) (rest := []) rfl ⟨by decide, by decide⟩ rfl jko_96 (Nat.le_of_ble_eq_true rfl) ?_
        obtain ⟨z4, hz_z4, K⟩ := Option.bind_eq_some_iff.mp K
        refine kCh_findEnough hP (by omega) hz_z4 ?_
        obtain rfl := Option.some.inj K
        exact jx_iret (pc := 27) rfl HQ
/-- AndGuest$Crowd.orderCost(III)J -/
noncomputable def fCr_orderCost (v1 : Int32) (v2 : Int32) (v3 : Int32) (h : jH) : Option Int64 :=
  (Option.bind (fCr_beyond v1 h) (fun (z1 : Int64) =>
  some (((v1.toInt64 * v2.toInt64) * 100000000) + (v3.toInt64 * z1) : Int64)))
theorem kCr_orderCost {X : jX} {dd : Nat} {p d : Nat} {q : Nat → Nat} {Q : Option Value → jS → Prop} {v1 : Int32} {v2 : Int32} {v3 : Int32} {h : jH} (hP : jOK p d q)  (hd : 1 ≤ dd) {z : Int64} (K : fCr_orderCost v1 v2 v3 h = some z) (HQ : Q (some (.long z)) (176, jRf p d q, h)) :
    jCa X dd 138 [.ref 80, .int v1, .int v2, .int v3] (176, jRf p d q, h) Q := by
  obtain ⟨dd, rfl⟩ : ∃ d9, dd = d9 + 1 := ⟨dd - 1, by omega⟩
  unfold fCr_orderCost at K
  refine jCa_of (es := jc_138) (pl := [some (.ref 80), some (.int v1), some (.int v2), some (.int v3)]) (M := jm_138) rfl rfl rfl rfl ?_
  refine jx_next (pc := 0) (pc' := 1) rfl rfl ?_
  refine jx_next (pc := 1) (pc' := 2) rfl rfl ?_
  refine jx_next (pc := 2) (pc' := 3) rfl rfl ?_
  refine jx_next (pc := 3) (pc' := 4) rfl rfl ?_
  refine jx_next (pc := 4) (pc' := 5) rfl rfl ?_
  refine jx_next (pc := 5) (pc' := 8) rfl rfl ?_
  refine jx_next (pc := 8) (pc' := 9) rfl rfl ?_
  refine jx_next (pc := 9) (pc' := 10) rfl rfl ?_
  refine jx_next (pc := 10) (pc' := 11) rfl rfl ?_
  refine jx_next (pc := 11) (pc' := 12) rfl rfl ?_
  refine jx_next (pc := 12) (pc' := 13) rfl rfl ?_
  refine jx_callv (pc := 13) (o := 80) (rest := [.long v3.toInt64, .long ((v1.toInt64 * v2.toInt64) * 100000000)]) rfl ⟨by decide, by decide⟩ rfl jko_80 (Nat.le_of_ble_eq_true rfl) ?_
  obtain ⟨z1, hz_z1, K⟩ := Option.bind_eq_some_iff.mp K
  refine kCr_beyond hP (by omega) hz_z1 ?_
  refine jx_next (pc := 16) (pc' := 17) rfl rfl ?_
  refine jx_next (pc := 17) (pc' := 18) rfl rfl ?_
  obtain rfl := Option.some.inj K
  exact jx_ret (pc := 18) rfl rfl HQ
/-- AndGuest.order(I)I -/
noncomputable def fA_order (p : Nat) (v1 : Int32) (h : jH) : Option (Int32 × jH) :=
  (if (h.1 1 12) = 0 then
  some ((-1), h)
  else
  (if v1 < 0 then
  some ((-1), h)
  else
  (if 32 < v1 then
  some ((-1), h)
  else
  (Option.bind (fPy_crowdNow p h) (fun (z5 : Nat × jH) =>
  (Option.bind (fCr_orderCost v1 (z5.2.1 p 5) (z5.2.1 p 6) z5.2) (fun (z6 : Int64) =>
  some ((z6 / 1000000).toInt32, z5.2))))))))
theorem kA_order {X : jX} {dd : Nat} {p d : Nat} {q : Nat → Nat} {Q : Option Value → jS → Prop} {v1 : Int32} {h : jH} (hP : jOK p d q)  (hd : 4 ≤ dd) {z : Int32 × jH} (K : fA_order p v1 h = some z) (HQ : Q (some (.int z.1)) (176, jRf p d q, z.2)) :
    jCa X dd 137 [.ref 1, .int v1] (176, jRf p d q, h) Q := by
  obtain ⟨dd, rfl⟩ : ∃ d9, dd = d9 + 1 := ⟨dd - 1, by omega⟩
  unfold fA_order at K
  refine jCa_of (es := jc_137) (pl := [some (.ref 1), some (.int v1), none]) (M := jm_137) rfl rfl rfl rfl ?_
  refine jx_next (pc := 0) (pc' := 1) rfl rfl ?_
  refine jx_getz (pc := 1) rfl jko_1 ?_
  refine jx_ifeq (pc := 4) rfl (fun hc1 => ?_) (fun hc1 => ?_)
  · replace K := (if_pos hc1).symm.trans K
    refine jx_next (pc := 17) (pc' := 18) rfl rfl ?_
    obtain rfl := Option.some.inj K
    exact jx_iret (pc := 18) rfl HQ
  · replace K := (if_neg hc1).symm.trans K
    refine jx_next (pc := 7) (pc' := 8) rfl rfl ?_
    refine jx_iflt (pc := 8) rfl (fun hc2 => ?_) (fun hc2 => ?_)
    · replace K := (if_pos hc2).symm.trans K
      refine jx_next (pc := 17) (pc' := 18) rfl rfl ?_
      obtain rfl := Option.some.inj K
      exact jx_iret (pc := 18) rfl HQ
    · replace K := (if_neg hc2).symm.trans K
      refine jx_next (pc := 11) (pc' := 12) rfl rfl ?_
      refine jx_next (pc := 12) (pc' := 14) rfl rfl ?_
      refine jx_icle (pc := 14) rfl (fun hc3 => ?_) (fun hc3 => ?_)
      · replace K := (if_pos hc3).symm.trans K
        refine jx_next (pc := 17) (pc' := 18) rfl rfl ?_
        obtain rfl := Option.some.inj K
        exact jx_iret (pc := 18) rfl HQ
      · replace K := (if_neg hc3).symm.trans K
        refine jx_next (pc := 19) (pc' := 20) rfl rfl ?_
        refine jx_getr2 (pc := 20) rfl jko_1 jr_1_8 ?_
        refine jx_callv (pc := 23) (o := 79) (rest := []) rfl ⟨by decide, by decide⟩ rfl jko_79 (Nat.le_of_ble_eq_true rfl) ?_
        refine kPy_plan hP (by omega) rfl ?_
        refine jx_stan (pc := 26) (p2 := [some (.ref 1), some (.int v1), some (.ref p)]) rfl (jlt rfl) rfl ?_
        refine jx_next (pc := 27) (pc' := 28) rfl rfl ?_
        refine jx_getr2 (pc := 28) rfl jko_1 jr_1_8 ?_
        refine jx_callv (pc := 31) (o := 79) (rest := []) rfl ⟨by decide, by decide⟩ rfl jko_79 (Nat.le_of_ble_eq_true rfl) ?_
        obtain ⟨z5, hz_z5, K⟩ := Option.bind_eq_some_iff.mp K
        refine kPy_crowdNow hP (by omega) hz_z5 ?_
        refine jx_next (pc := 34) (pc' := 35) rfl rfl ?_
        refine jx_next (pc := 35) (pc' := 36) rfl rfl ?_
        refine jx_geti (pc := 36) rfl hP.1 ?_
        refine jx_next (pc := 39) (pc' := 40) rfl rfl ?_
        refine jx_geti (pc := 40) rfl hP.1 ?_
        refine jx_callv (pc := 43) (o := 80) (rest := []) rfl ⟨by decide, by decide⟩ rfl jko_80 (Nat.le_of_ble_eq_true rfl) ?_
        obtain ⟨z6, hz_z6, K⟩ := Option.bind_eq_some_iff.mp K
        refine kCr_orderCost hP (by omega) hz_z6 ?_
        refine jx_next (pc := 46) (pc' := 49) rfl rfl ?_
        refine jx_ldiv (pc := 49) rfl (by decide) ?_
        refine jx_next (pc := 50) (pc' := 51) rfl rfl ?_
        obtain rfl := Option.some.inj K
        exact jx_iret (pc := 51) rfl HQ
noncomputable def fCr_leastOrder_l14_j46 (v1 : Int32) (v2 : Int32) (v3 : Int32) (v4 : Int64) (v6 : Int32) (h : jH) : Option ((Int32 × Int64 × Int32) ⊕ (Int32)) :=
  some (.inl (v3, v4, v6 + 1))
theorem kCr_leastOrder_l14_j46 {X : jX} {dd : Nat} {p d : Nat} {q : Nat → Nat} {Q : Option Value → jS → Prop} {v1 : Int32} {v2 : Int32} {v3 : Int32} {v4 : Int64} {v6 : Int32} {h : jH} (hP : jOK p d q)  (hd : 2 ≤ (dd + 1)) {z : (Int32 × Int64 × Int32) ⊕ (Int32)} (K : fCr_leastOrder_l14_j46 v1 v2 v3 v4 v6 h = some z) (HL : ∀ s : Int32 × Int64 × Int32, z = .inl s → jEx X (dd + 1) jc_140 14 [some (.ref 80), some (.int v1), some (.int v2), some (.int s.1), some (.long s.2.1), none, some (.int s.2.2), none, none] [] (176, jRf p d q, h) Q) (HE0 : ∀ x : Int32, z = .inr x → jEx X (dd + 1) jc_140 52 [none, none, none, some (.int x), none, none, none, none, none] [] (176, jRf p d q, h) Q) :
    jEx X (dd + 1) jc_140 46 [some (.ref 80), some (.int v1), some (.int v2), some (.int v3), some (.long v4), none, some (.int v6), none, none] [] (176, jRf p d q, h) Q := by
  unfold fCr_leastOrder_l14_j46 at K
  refine jx_inc (pc := 46) (x := v6) (p2 := [some (.ref 80), some (.int v1), some (.int v2), some (.int v3), some (.long v4), none, some (.int (v6 + 1)), none, none]) rfl rfl (jlt rfl) rfl ?_
  refine jx_next (pc := 49) (pc' := 14) rfl rfl ?_
  obtain rfl := Option.some.inj K
  refine jx_le (pl' := [some (.ref 80), some (.int v1), some (.int v2), some (.int v3), some (.long v4), none, some (.int (v6 + 1)), none, none]) (jle_v (jle_v (jle_v (jle_v (jle_v (jle_n (jle_v (jle_n (jle_n jle_nil))))))))) ?_
  exact HL (v3, v4, v6 + 1) rfl
noncomputable def fCr_leastOrder_l14_b (v1 : Int32) (v2 : Int32) (v3 : Int32) (v4 : Int64) (v6 : Int32) (h : jH) : Option ((Int32 × Int64 × Int32) ⊕ (Int32)) :=
  (if 32 < v6 then
  some (.inr v3)
  else
  (Option.bind (fCr_orderCost v6 v1 v2 h) (fun (z3 : Int64) =>
  (if z3 < v4 then
  fCr_leastOrder_l14_j46  v1 v2 v6 z3 v6 h
  else
  fCr_leastOrder_l14_j46  v1 v2 v3 v4 v6 h))))
noncomputable def fCr_leastOrder_l14 (v1 : Int32) (v2 : Int32) (h : jH) : (Int32 × Int64 × Int32) → Option ((Int32 × Int64 × Int32) ⊕ (Int32)) :=
  fun (s : Int32 × Int64 × Int32) => fCr_leastOrder_l14_b v1 v2 s.1 s.2.1 s.2.2 h
theorem kCr_leastOrder_l14_b {X : jX} {dd : Nat} {p d : Nat} {q : Nat → Nat} {Q : Option Value → jS → Prop} {v1 : Int32} {v2 : Int32} {v3 : Int32} {v4 : Int64} {v6 : Int32} {h : jH} (hP : jOK p d q)  (hd : 2 ≤ (dd + 1)) {z : (Int32 × Int64 × Int32) ⊕ (Int32)} (K : fCr_leastOrder_l14_b v1 v2 v3 v4 v6 h = some z) (HL : ∀ s : Int32 × Int64 × Int32, z = .inl s → jEx X (dd + 1) jc_140 14 [some (.ref 80), some (.int v1), some (.int v2), some (.int s.1), some (.long s.2.1), none, some (.int s.2.2), none, none] [] (176, jRf p d q, h) Q) (HE0 : ∀ x : Int32, z = .inr x → jEx X (dd + 1) jc_140 52 [none, none, none, some (.int x), none, none, none, none, none] [] (176, jRf p d q, h) Q) :
    jEx X (dd + 1) jc_140 14 [some (.ref 80), some (.int v1), some (.int v2), some (.int v3), some (.long v4), none, some (.int v6), none, none] [] (176, jRf p d q, h) Q := by
  unfold fCr_leastOrder_l14_b at K
  refine jx_next (pc := 14) (pc' := 16) rfl rfl ?_
  refine jx_next (pc := 16) (pc' := 18) rfl rfl ?_
  refine jx_icgt (pc := 18) rfl (fun hc2 => ?_) (fun hc2 => ?_)
  · replace K := (if_pos hc2).symm.trans K
    obtain rfl := Option.some.inj K
    refine jx_le (pl' := [none, none, none, some (.int v3), none, none, none, none, none]) (jle_n (jle_n (jle_n (jle_v (jle_n (jle_n (jle_n (jle_n (jle_n jle_nil))))))))) ?_
    exact HE0 _ rfl
  · replace K := (if_neg hc2).symm.trans K
    refine jx_next (pc := 21) (pc' := 22) rfl rfl ?_
    refine jx_next (pc := 22) (pc' := 24) rfl rfl ?_
    refine jx_next (pc := 24) (pc' := 25) rfl rfl ?_
    refine jx_next (pc := 25) (pc' := 26) rfl rfl ?_
    refine jx_callv (pc := 26) (o := 80) (rest := []) rfl ⟨by decide, by decide⟩ rfl jko_80 (Nat.le_of_ble_eq_true rfl) ?_
    obtain ⟨z3, hz_z3, K⟩ := Option.bind_eq_some_iff.mp K
    refine kCr_orderCost hP (by omega) hz_z3 ?_
    refine jx_stl (pc := 29) (p2 := [some (.ref 80), some (.int v1), some (.int v2), some (.int v3), some (.long v4), none, some (.int v6), some (.long z3), none]) rfl (jlt rfl) rfl ?_
    refine jx_next (pc := 31) (pc' := 33) rfl rfl ?_
    refine jx_next (pc := 33) (pc' := 35) rfl rfl ?_
    refine jx_lcge (pc := 35) rfl rfl (fun hc4 => ?_) (fun hc4 => ?_)
    · replace K := (if_pos hc4).symm.trans K
      refine jx_next (pc := 39) (pc' := 41) rfl rfl ?_
      refine jx_stin (pc := 41) (p2 := [some (.ref 80), some (.int v1), some (.int v2), some (.int v6), some (.long v4), none, some (.int v6), some (.long z3), none]) rfl (jlt rfl) rfl ?_
      refine jx_next (pc := 42) (pc' := 44) rfl rfl ?_
      refine jx_stl (pc := 44) (p2 := [some (.ref 80), some (.int v1), some (.int v2), some (.int v6), some (.long z3), none, some (.int v6), some (.long z3), none]) rfl (jlt rfl) rfl ?_
      refine jx_le (pl' := [some (.ref 80), some (.int v1), some (.int v2), some (.int v6), some (.long z3), none, some (.int v6), none, none]) (jle_v (jle_v (jle_v (jle_v (jle_v (jle_n (jle_v (jle_n (jle_n jle_nil))))))))) ?_
      exact kCr_leastOrder_l14_j46 hP  hd K HL HE0
    · replace K := (if_neg hc4).symm.trans K
      refine jx_le (pl' := [some (.ref 80), some (.int v1), some (.int v2), some (.int v3), some (.long v4), none, some (.int v6), none, none]) (jle_v (jle_v (jle_v (jle_v (jle_v (jle_n (jle_v (jle_n (jle_n jle_nil))))))))) ?_
      exact kCr_leastOrder_l14_j46 hP  hd K HL HE0
theorem kCr_leastOrder_l14_w {X : jX} {dd : Nat} {p d : Nat} {q : Nat → Nat} {Q : Option Value → jS → Prop} {v1 : Int32} {v2 : Int32} {h : jH} (hP : jOK p d q)  (hd : 2 ≤ (dd + 1)) {s : Int32 × Int64 × Int32} {x : Int32} (K : jlim (fCr_leastOrder_l14 v1 v2 h) s = some x) (HE : jEx X (dd + 1) jc_140 52 [none, none, none, some (.int x), none, none, none, none, none] [] (176, jRf p d q, h) Q) :
    jEx X (dd + 1) jc_140 14 [some (.ref 80), some (.int v1), some (.int v2), some (.int s.1), some (.long s.2.1), none, some (.int s.2.2), none, none] [] (176, jRf p d q, h) Q := by
  refine jlim_ok (G := fun s : Int32 × Int64 × Int32 => jEx X (dd + 1) jc_140 14 [some (.ref 80), some (.int v1), some (.int v2), some (.int s.1), some (.long s.2.1), none, some (.int s.2.2), none, none] [] (176, jRf p d q, h) Q) (GX := fun x : Int32 => jEx X (dd + 1) jc_140 52 [none, none, none, some (.int x), none, none, none, none, none] [] (176, jRf p d q, h) Q) (fun s z hz HL HE => ?_) K HE
  exact kCr_leastOrder_l14_b hP  hd hz HL HE
/-- AndGuest$Crowd.leastOrder(II)I -/
noncomputable def fCr_leastOrder (v1 : Int32) (v2 : Int32) (h : jH) : Option Int32 :=
  (Option.bind (fCr_orderCost 0 v1 v2 h) (fun (z1 : Int64) =>
  (Option.bind (jlim (fCr_leastOrder_l14  v1 v2 h) (0, z1, 1)) (fun (x5 : Int32) =>
  some (x5 : Int32)))))
theorem kCr_leastOrder {X : jX} {dd : Nat} {p d : Nat} {q : Nat → Nat} {Q : Option Value → jS → Prop} {v1 : Int32} {v2 : Int32} {h : jH} (hP : jOK p d q)  (hd : 2 ≤ dd) {z : Int32} (K : fCr_leastOrder v1 v2 h = some z) (HQ : Q (some (.int z)) (176, jRf p d q, h)) :
    jCa X dd 140 [.ref 80, .int v1, .int v2] (176, jRf p d q, h) Q := by
  obtain ⟨dd, rfl⟩ : ∃ d9, dd = d9 + 1 := ⟨dd - 1, by omega⟩
  unfold fCr_leastOrder at K
  refine jCa_of (es := jc_140) (pl := [some (.ref 80), some (.int v1), some (.int v2), none, none, none, none, none, none]) (M := jm_140) rfl rfl rfl rfl ?_
  refine jx_next (pc := 0) (pc' := 1) rfl rfl ?_
  refine jx_stin (pc := 1) (p2 := [some (.ref 80), some (.int v1), some (.int v2), some (.int 0), none, none, none, none, none]) rfl (jlt rfl) rfl ?_
  refine jx_next (pc := 2) (pc' := 3) rfl rfl ?_
  refine jx_next (pc := 3) (pc' := 4) rfl rfl ?_
  refine jx_next (pc := 4) (pc' := 5) rfl rfl ?_
  refine jx_next (pc := 5) (pc' := 6) rfl rfl ?_
  refine jx_callv (pc := 6) (o := 80) (rest := []) rfl ⟨by decide, by decide⟩ rfl jko_80 (Nat.le_of_ble_eq_true rfl) ?_
  obtain ⟨z1, hz_z1, K⟩ := Option.bind_eq_some_iff.mp K
  refine kCr_orderCost hP (by omega) hz_z1 ?_
  refine jx_stl (pc := 9) (p2 := [some (.ref 80), some (.int v1), some (.int v2), some (.int 0), some (.long z1), none, none, none, none]) rfl (jlt rfl) rfl ?_
  refine jx_next (pc := 11) (pc' := 12) rfl rfl ?_
  refine jx_sti (pc := 12) (p2 := [some (.ref 80), some (.int v1), some (.int v2), some (.int 0), some (.long z1), none, some (.int 1), none, none]) rfl (jlt rfl) rfl ?_
  refine jx_le (pl' := [some (.ref 80), some (.int v1), some (.int v2), some (.int 0), some (.long z1), none, some (.int 1), none, none]) (jle_v (jle_v (jle_v (jle_v (jle_v (jle_n (jle_v (jle_n (jle_n jle_nil))))))))) ?_
  obtain ⟨x5, hz_x5, K⟩ := Option.bind_eq_some_iff.mp K
  refine kCr_leastOrder_l14_w hP  hd hz_x5 ?_
  refine jx_next (pc := 52) (pc' := 53) rfl rfl ?_
  obtain rfl := Option.some.inj K
  exact jx_iret (pc := 53) rfl HQ
/-- AndGuest.plates(I)I -/
noncomputable def fA_plates (p : Nat) (v1 : Int32) (h : jH) : Option (Int32 × jH) :=
  (if (h.1 1 12) = 0 then
  some ((-1), h)
  else
  (if v1 < 0 then
  some ((-1), h)
  else
  (if 1 < v1 then
  some ((-1), h)
  else
  (Option.bind (fPy_crowdNow p h) (fun (z5 : Nat × jH) =>
  (Option.bind (fCr_leastOrder (z5.2.1 p 5) (z5.2.1 p 6) z5.2) (fun (z6 : Int32) =>
  (if v1 = 0 then
  some (z6, z5.2)
  else
  (Option.bind (fCr_orderCost z6 (z5.2.1 p 5) (z5.2.1 p 6) z5.2) (fun (z8 : Int64) =>
  some ((z8 / 1000000).toInt32, z5.2)))))))))))
theorem kA_plates {X : jX} {dd : Nat} {p d : Nat} {q : Nat → Nat} {Q : Option Value → jS → Prop} {v1 : Int32} {h : jH} (hP : jOK p d q)  (hd : 4 ≤ dd) {z : Int32 × jH} (K : fA_plates p v1 h = some z) (HQ : Q (some (.int z.1)) (176, jRf p d q, z.2)) :
    jCa X dd 139 [.ref 1, .int v1] (176, jRf p d q, h) Q := by
  obtain ⟨dd, rfl⟩ : ∃ d9, dd = d9 + 1 := ⟨dd - 1, by omega⟩
  unfold fA_plates at K
  refine jCa_of (es := jc_139) (pl := [some (.ref 1), some (.int v1), none, none, none]) (M := jm_139) rfl rfl rfl rfl ?_
  refine jx_next (pc := 0) (pc' := 1) rfl rfl ?_
  refine jx_getz (pc := 1) rfl jko_1 ?_
  refine jx_ifeq (pc := 4) rfl (fun hc1 => ?_) (fun hc1 => ?_)
  · replace K := (if_pos hc1).symm.trans K
    refine jx_next (pc := 16) (pc' := 17) rfl rfl ?_
    obtain rfl := Option.some.inj K
    exact jx_iret (pc := 17) rfl HQ
  · replace K := (if_neg hc1).symm.trans K
    refine jx_next (pc := 7) (pc' := 8) rfl rfl ?_
    refine jx_iflt (pc := 8) rfl (fun hc2 => ?_) (fun hc2 => ?_)
    · replace K := (if_pos hc2).symm.trans K
      refine jx_next (pc := 16) (pc' := 17) rfl rfl ?_
      obtain rfl := Option.some.inj K
      exact jx_iret (pc := 17) rfl HQ
    · replace K := (if_neg hc2).symm.trans K
      refine jx_next (pc := 11) (pc' := 12) rfl rfl ?_
      refine jx_next (pc := 12) (pc' := 13) rfl rfl ?_
      refine jx_icle (pc := 13) rfl (fun hc3 => ?_) (fun hc3 => ?_)
      · replace K := (if_pos hc3).symm.trans K
        refine jx_next (pc := 16) (pc' := 17) rfl rfl ?_
        obtain rfl := Option.some.inj K
        exact jx_iret (pc := 17) rfl HQ
      · replace K := (if_neg hc3).symm.trans K
        refine jx_next (pc := 18) (pc' := 19) rfl rfl ?_
        refine jx_getr2 (pc := 19) rfl jko_1 jr_1_8 ?_
        refine jx_callv (pc := 22) (o := 79) (rest := []) rfl ⟨by decide, by decide⟩ rfl jko_79 (Nat.le_of_ble_eq_true rfl) ?_
        refine kPy_plan hP (by omega) rfl ?_
        refine jx_stan (pc := 25) (p2 := [some (.ref 1), some (.int v1), some (.ref p), none, none]) rfl (jlt rfl) rfl ?_
        refine jx_next (pc := 26) (pc' := 27) rfl rfl ?_
        refine jx_getr2 (pc := 27) rfl jko_1 jr_1_8 ?_
        refine jx_callv (pc := 30) (o := 79) (rest := []) rfl ⟨by decide, by decide⟩ rfl jko_79 (Nat.le_of_ble_eq_true rfl) ?_
        obtain ⟨z5, hz_z5, K⟩ := Option.bind_eq_some_iff.mp K
        refine kPy_crowdNow hP (by omega) hz_z5 ?_
        refine jx_stan (pc := 33) (p2 := [some (.ref 1), some (.int v1), some (.ref p), some (.ref 80), none]) rfl (jlt rfl) rfl ?_
        refine jx_next (pc := 34) (pc' := 35) rfl rfl ?_
        refine jx_next (pc := 35) (pc' := 36) rfl rfl ?_
        refine jx_geti (pc := 36) rfl hP.1 ?_
        refine jx_next (pc := 39) (pc' := 40) rfl rfl ?_
        refine jx_geti (pc := 40) rfl hP.1 ?_
        refine jx_callv (pc := 43) (o := 80) (rest := []) rfl ⟨by decide, by decide⟩ rfl jko_80 (Nat.le_of_ble_eq_true rfl) ?_
        obtain ⟨z6, hz_z6, K⟩ := Option.bind_eq_some_iff.mp K
        refine kCr_leastOrder hP (by omega) hz_z6 ?_
        refine jx_sti (pc := 46) (p2 := [some (.ref 1), some (.int v1), some (.ref p), some (.ref 80), some (.int z6)]) rfl (jlt rfl) rfl ?_
        refine jx_next (pc := 48) (pc' := 49) rfl rfl ?_
        refine jx_ifne (pc := 49) rfl (fun hc7 => ?_) (fun hc7 => ?_)
        · replace K := (if_pos hc7).symm.trans K
          refine jx_next (pc := 52) (pc' := 54) rfl rfl ?_
          refine jx_next (pc := 54) (pc' := 76) rfl rfl ?_
          obtain rfl := Option.some.inj K
          exact jx_iret (pc := 76) rfl HQ
        · replace K := (if_neg hc7).symm.trans K
          refine jx_next (pc := 57) (pc' := 58) rfl rfl ?_
          refine jx_next (pc := 58) (pc' := 60) rfl rfl ?_
          refine jx_next (pc := 60) (pc' := 61) rfl rfl ?_
          refine jx_geti (pc := 61) rfl hP.1 ?_
          refine jx_next (pc := 64) (pc' := 65) rfl rfl ?_
          refine jx_geti (pc := 65) rfl hP.1 ?_
          refine jx_callv (pc := 68) (o := 80) (rest := []) rfl ⟨by decide, by decide⟩ rfl jko_80 (Nat.le_of_ble_eq_true rfl) ?_
          obtain ⟨z8, hz_z8, K⟩ := Option.bind_eq_some_iff.mp K
          refine kCr_orderCost hP (by omega) hz_z8 ?_
          refine jx_next (pc := 71) (pc' := 74) rfl rfl ?_
          refine jx_ldiv (pc := 74) rfl (by decide) ?_
          refine jx_next (pc := 75) (pc' := 76) rfl rfl ?_
          obtain rfl := Option.some.inj K
          exact jx_iret (pc := 76) rfl HQ
/-- AndGuest$Party.standing()LAndGuest$Standing; -/
noncomputable def fPy_standing  (h : jH) : Nat :=
  (11 : Nat)
theorem kPy_standing {X : jX} {dd : Nat} {p d : Nat} {q : Nat → Nat} {Q : Option Value → jS → Prop}  {h : jH} (hP : jOK p d q)  (hd : 0 ≤ dd) {z : Nat} (K : fPy_standing  h = z) (HQ : Q (some (.ref 11)) (176, jRf p d q, h)) :
    jCa X dd 143 [.ref 79] (176, jRf p d q, h) Q := by
  unfold fPy_standing at K
  refine jCa_of (es := jc_143) (pl := [some (.ref 79)]) (M := jm_143) rfl rfl rfl rfl ?_
  refine jx_next (pc := 0) (pc' := 1) rfl rfl ?_
  refine jx_getr2 (pc := 1) rfl jko_79 jr_8_0 ?_
  obtain rfl := K
  exact jx_ret (pc := 4) rfl rfl HQ
/-- AndGuest$Choices.leastCost(II)J -/
noncomputable def fCh_leastCost (p : Nat) (v1 : Int32) (v2 : Int32) (h : jH) : Option (Int64 × jH) :=
  (Option.bind (fPy_crowdWhen p v1 v2 h) (fun (z2 : Nat × jH) =>
  (Option.bind (fCr_leastOrder (z2.2.1 p 5) (z2.2.1 p 6) z2.2) (fun (z3 : Int32) =>
  (Option.bind (fCr_orderCost z3 (z2.2.1 p 5) (z2.2.1 p 6) z2.2) (fun (z4 : Int64) =>
  some (z4, z2.2)))))))
theorem kCh_leastCost {X : jX} {dd : Nat} {p d : Nat} {q : Nat → Nat} {Q : Option Value → jS → Prop} {v1 : Int32} {v2 : Int32} {h : jH} (hP : jOK p d q)  (hd : 3 ≤ dd) {z : Int64 × jH} (K : fCh_leastCost p v1 v2 h = some z) (HQ : Q (some (.long z.1)) (176, jRf p d q, z.2)) :
    jCa X dd 144 [.ref 96, .int v1, .int v2] (176, jRf p d q, h) Q := by
  obtain ⟨dd, rfl⟩ : ∃ d9, dd = d9 + 1 := ⟨dd - 1, by omega⟩
  unfold fCh_leastCost at K
  refine jCa_of (es := jc_144) (pl := [some (.ref 96), some (.int v1), some (.int v2), none, none]) (M := jm_144) rfl rfl rfl rfl ?_
  refine jx_next (pc := 0) (pc' := 1) rfl rfl ?_
  refine jx_getr2 (pc := 1) rfl jko_96 jr_11_0 ?_
  refine jx_callv (pc := 4) (o := 79) (rest := []) rfl ⟨by decide, by decide⟩ rfl jko_79 (Nat.le_of_ble_eq_true rfl) ?_
  refine kPy_plan hP (by omega) rfl ?_
  refine jx_stan (pc := 7) (p2 := [some (.ref 96), some (.int v1), some (.int v2), some (.ref p), none]) rfl (jlt rfl) rfl ?_
  refine jx_next (pc := 8) (pc' := 9) rfl rfl ?_
  refine jx_getr2 (pc := 9) rfl jko_96 jr_11_0 ?_
  refine jx_next (pc := 12) (pc' := 13) rfl rfl ?_
  refine jx_next (pc := 13) (pc' := 14) rfl rfl ?_
  refine jx_callv (pc := 14) (o := 79) (rest := []) rfl ⟨by decide, by decide⟩ rfl jko_79 (Nat.le_of_ble_eq_true rfl) ?_
  obtain ⟨z2, hz_z2, K⟩ := Option.bind_eq_some_iff.mp K
  refine kPy_crowdWhen hP (by omega) hz_z2 ?_
  refine jx_sta (pc := 17) (p2 := [some (.ref 96), some (.int v1), some (.int v2), some (.ref p), some (.ref 80)]) rfl (jlt rfl) rfl ?_
  refine jx_next (pc := 19) (pc' := 21) rfl rfl ?_
  refine jx_next (pc := 21) (pc' := 23) rfl rfl ?_
  refine jx_next (pc := 23) (pc' := 24) rfl rfl ?_
  refine jx_geti (pc := 24) rfl hP.1 ?_
  refine jx_next (pc := 27) (pc' := 28) rfl rfl ?_
  refine jx_geti (pc := 28) rfl hP.1 ?_
  refine jx_callv (pc := 31) (o := 80) (rest := [.ref 80]) rfl ⟨by decide, by decide⟩ rfl jko_80 (Nat.le_of_ble_eq_true rfl) ?_
  obtain ⟨z3, hz_z3, K⟩ := Option.bind_eq_some_iff.mp K
  refine kCr_leastOrder hP (by omega) hz_z3 ?_
  refine jx_next (pc := 34) (pc' := 35) rfl rfl ?_
  refine jx_geti (pc := 35) rfl hP.1 ?_
  refine jx_next (pc := 38) (pc' := 39) rfl rfl ?_
  refine jx_geti (pc := 39) rfl hP.1 ?_
  refine jx_callv (pc := 42) (o := 80) (rest := []) rfl ⟨by decide, by decide⟩ rfl jko_80 (Nat.le_of_ble_eq_true rfl) ?_
  obtain ⟨z4, hz_z4, K⟩ := Option.bind_eq_some_iff.mp K
  refine kCr_orderCost hP (by omega) hz_z4 ?_
  obtain rfl := Option.some.inj K
  exact jx_ret (pc := 45) rfl rfl HQ
noncomputable def fCh_findRing_l12_j112 (p : Nat) (v1 : Nat) (v2 : Int32) (v3 : Int32) (h : jH) : Option ((Int32 × Int32 × jH) ⊕ (Int32 × jH)) :=
  some (.inl (v2, v3 + 1, h))
theorem kCh_findRing_l12_j112 {X : jX} {dd : Nat} {p d : Nat} {q : Nat → Nat} {Q : Option Value → jS → Prop} {v1 : Nat} {v2 : Int32} {v3 : Int32} {h : jH} (hP : jOK p d q) (hv1 : jcl 176 v1 = 6) (hd : 4 ≤ (dd + 1)) {z : (Int32 × Int32 × jH) ⊕ (Int32 × jH)} (K : fCh_findRing_l12_j112 p v1 v2 v3 h = some z) (HL : ∀ s : Int32 × Int32 × jH, z = .inl s → jEx X (dd + 1) jc_142 12 [some (.ref 96), some (.ref v1), some (.int s.1), some (.int s.2.1), none, none, none] [] (176, jRf p d q, s.2.2) Q) (HE0 : ∀ x : Int32 × jH, z = .inr x → jEx X (dd + 1) jc_142 118 [none, none, some (.int x.1), none, none, none, none] [] (176, jRf p d q, x.2) Q) :
    jEx X (dd + 1) jc_142 112 [some (.ref 96), some (.ref v1), some (.int v2), some (.int v3), none, none, none] [] (176, jRf p d q, h) Q := by
  unfold fCh_findRing_l12_j112 at K
  refine jx_inc (pc := 112) (x := v3) (p2 := [some (.ref 96), some (.ref v1), some (.int v2), some (.int (v3 + 1)), none, none, none]) rfl rfl (jlt rfl) rfl ?_
  refine jx_next (pc := 115) (pc' := 12) rfl rfl ?_
  obtain rfl := Option.some.inj K
  refine jx_le (pl' := [some (.ref 96), some (.ref v1), some (.int v2), some (.int (v3 + 1)), none, none, none]) (jle_v (jle_v (jle_v (jle_v (jle_n (jle_n (jle_n jle_nil))))))) ?_
  exact HL (v2, v3 + 1, h) rfl
noncomputable def fCh_findRing_l12_j104 (p : Nat) (v1 : Nat) (v3 : Int32) (v5 : Int64) (h : jH) : Option ((Int32 × Int32 × jH) ⊕ (Int32 × jH)) :=
  fCh_findRing_l12_j112  p v1 v3 v3 (jhL h 96 5 v5)
theorem kCh_findRing_l12_j104 {X : jX} {dd : Nat} {p d : Nat} {q : Nat → Nat} {Q : Option Value → jS → Prop} {v1 : Nat} {v3 : Int32} {v5 : Int64} {h : jH} (hP : jOK p d q) (hv1 : jcl 176 v1 = 6) (hd : 4 ≤ (dd + 1)) {z : (Int32 × Int32 × jH) ⊕ (Int32 × jH)} (K : fCh_findRing_l12_j104 p v1 v3 v5 h = some z) (HL : ∀ s : Int32 × Int32 × jH, z = .inl s → jEx X (dd + 1) jc_142 12 [some (.ref 96), some (.ref v1), some (.int s.1), some (.int s.2.1), none, none, none] [] (176, jRf p d q, s.2.2) Q) (HE0 : ∀ x : Int32 × jH, z = .inr x → jEx X (dd + 1) jc_142 118 [none, none, some (.int x.1), none, none, none, none] [] (176, jRf p d q, x.2) Q) :
    jEx X (dd + 1) jc_142 104 [some (.ref 96), some (.ref v1), none, some (.int v3), none, some (.long v5), none] [] (176, jRf p d q, h) Q := by
  unfold fCh_findRing_l12_j104 at K
  refine jx_next (pc := 104) (pc' := 105) rfl rfl ?_
  refine jx_stin (pc := 105) (p2 := [some (.ref 96), some (.ref v1), some (.int v3), some (.int v3), none, some (.long v5), none]) rfl (jlt rfl) rfl ?_
  refine jx_next (pc := 106) (pc' := 107) rfl rfl ?_
  refine jx_next (pc := 107) (pc' := 109) rfl rfl ?_
  refine jx_putl (pc := 109) rfl jko_96 ?_
  refine jx_le (pl' := [some (.ref 96), some (.ref v1), some (.int v3), some (.int v3), none, none, none]) (jle_v (jle_v (jle_v (jle_v (jle_n (jle_n (jle_n jle_nil))))))) ?_
  exact kCh_findRing_l12_j112 hP hv1 hd K HL HE0
noncomputable def fCh_findRing_l12_j52 (p : Nat) (v1 : Nat) (v2 : Int32) (v3 : Int32) (h : jH) : Option ((Int32 × Int32 × jH) ⊕ (Int32 × jH)) :=
  (Option.bind (fPy_comesNow p v3 h) (fun (z7 : Int32) =>
  (Option.bind (fCh_leastCost p v3 10 h) (fun (z8 : Int64 × jH) =>
  (Option.bind (fCh_leastCost p v3 0 z8.2) (fun (z9 : Int64 × jH) =>
  (if v2 = (-1) then
  fCh_findRing_l12_j104  p v1 v3 ((z7.toInt64 * z8.1) + (((10 - z7).toInt64) * z9.1)) z9.2
  else
  (if ((z7.toInt64 * z8.1) + (((10 - z7).toInt64) * z9.1)) < (z9.2.2 96 5) then
  fCh_findRing_l12_j104  p v1 v3 ((z7.toInt64 * z8.1) + (((10 - z7).toInt64) * z9.1)) z9.2
  else
  fCh_findRing_l12_j112  p v1 v2 v3 z9.2))))))))
theorem kCh_findRing_l12_j52 {X : jX} {dd : Nat} {p d : Nat} {q : Nat → Nat} {Q : Option Value → jS → Prop} {v1 : Nat} {v2 : Int32} {v3 : Int32} {h : jH} (hP : jOK p d q) (hv1 : jcl 176 v1 = 6) (hd : 4 ≤ (dd + 1)) {z : (Int32 × Int32 × jH) ⊕ (Int32 × jH)} (K : fCh_findRing_l12_j52 p v1 v2 v3 h = some z) (HL : ∀ s : Int32 × Int32 × jH, z = .inl s → jEx X (dd + 1) jc_142 12 [some (.ref 96), some (.ref v1), some (.int s.1), some (.int s.2.1), none, none, none] [] (176, jRf p d q, s.2.2) Q) (HE0 : ∀ x : Int32 × jH, z = .inr x → jEx X (dd + 1) jc_142 118 [none, none, some (.int x.1), none, none, none, none] [] (176, jRf p d q, x.2) Q) :
    jEx X (dd + 1) jc_142 52 [some (.ref 96), some (.ref v1), some (.int v2), some (.int v3), none, none, none] [] (176, jRf p d q, h) Q := by
  unfold fCh_findRing_l12_j52 at K
  refine jx_next (pc := 52) (pc' := 53) rfl rfl ?_
  refine jx_getr2 (pc := 53) rfl jko_96 jr_11_0 ?_
  refine jx_next (pc := 56) (pc' := 57) rfl rfl ?_
  refine jx_callv (pc := 57) (o := 79) (rest := []) rfl ⟨by decide, by decide⟩ rfl jko_79 (Nat.le_of_ble_eq_true rfl) ?_
  obtain ⟨z7, hz_z7, K⟩ := Option.bind_eq_some_iff.mp K
  refine kPy_comesNow hP (by omega) hz_z7 ?_
  refine jx_sti (pc := 60) (p2 := [some (.ref 96), some (.ref v1), some (.int v2), some (.int v3), some (.int z7), none, none]) rfl (jlt rfl) rfl ?_
  refine jx_next (pc := 62) (pc' := 64) rfl rfl ?_
  refine jx_next (pc := 64) (pc' := 65) rfl rfl ?_
  refine jx_next (pc := 65) (pc' := 66) rfl rfl ?_
  refine jx_next (pc := 66) (pc' := 67) rfl rfl ?_
  refine jx_next (pc := 67) (pc' := 69) rfl rfl ?_
  refine jx_callv (pc := 69) (o := 96) (rest := [.long z7.toInt64]) rfl ⟨by decide, by decide⟩ rfl jko_96 (Nat.le_of_ble_eq_true rfl) ?_
  obtain ⟨z8, hz_z8, K⟩ := Option.bind_eq_some_iff.mp K
  refine kCh_leastCost hP (by omega) hz_z8 ?_
  refine jx_next (pc := 72) (pc' := 73) rfl rfl ?_
  refine jx_next (pc := 73) (pc' := 75) rfl rfl ?_
  refine jx_next (pc := 75) (pc' := 77) rfl rfl ?_
  refine jx_next (pc := 77) (pc' := 78) rfl rfl ?_
  refine jx_next (pc := 78) (pc' := 79) rfl rfl ?_
  refine jx_next (pc := 79) (pc' := 80) rfl rfl ?_
  refine jx_next (pc := 80) (pc' := 81) rfl rfl ?_
  refine jx_next (pc := 81) (pc' := 82) rfl rfl ?_
  refine jx_callv (pc := 82) (o := 96) (rest := [.long ((10 - z7).toInt64), .long (z7.toInt64 * z8.1)]) rfl ⟨by decide, by decide⟩ rfl jko_96 (Nat.le_of_ble_eq_true rfl) ?_
  obtain ⟨z9, hz_z9, K⟩ := Option.bind_eq_some_iff.mp K
  refine kCh_leastCost hP (by omega) hz_z9 ?_
  refine jx_next (pc := 85) (pc' := 86) rfl rfl ?_
  refine jx_next (pc := 86) (pc' := 87) rfl rfl ?_
  refine jx_stl (pc := 87) (p2 := [some (.ref 96), some (.ref v1), some (.int v2), some (.int v3), some (.int z7), some (.long ((z7.toInt64 * z8.1) + (((10 - z7).toInt64) * z9.1))), none]) rfl (jlt rfl) rfl ?_
  refine jx_next (pc := 89) (pc' := 90) rfl rfl ?_
  refine jx_next (pc := 90) (pc' := 91) rfl rfl ?_
  refine jx_iceq (pc := 91) rfl (fun hc10 => ?_) (fun hc10 => ?_)
  · replace K := (if_pos hc10).symm.trans K
    refine jx_le (pl' := [some (.ref 96), some (.ref v1), none, some (.int v3), none, some (.long ((z7.toInt64 * z8.1) + (((10 - z7).toInt64) * z9.1))), none]) (jle_v (jle_v (jle_n (jle_v (jle_n (jle_v (jle_n jle_nil))))))) ?_
    exact kCh_findRing_l12_j104 hP hv1 hd K HL HE0
  · replace K := (if_neg hc10).symm.trans K
    refine jx_next (pc := 94) (pc' := 96) rfl rfl ?_
    refine jx_next (pc := 96) (pc' := 97) rfl rfl ?_
    refine jx_getl (pc := 97) rfl jko_96 ?_
    refine jx_lcge (pc := 100) rfl rfl (fun hc11 => ?_) (fun hc11 => ?_)
    · replace K := (if_pos hc11).symm.trans K
      refine jx_le (pl' := [some (.ref 96), some (.ref v1), none, some (.int v3), none, some (.long ((z7.toInt64 * z8.1) + (((10 - z7).toInt64) * z9.1))), none]) (jle_v (jle_v (jle_n (jle_v (jle_n (jle_v (jle_n jle_nil))))))) ?_
      exact kCh_findRing_l12_j104 hP hv1 hd K HL HE0
    · replace K := (if_neg hc11).symm.trans K
      refine jx_le (pl' := [some (.ref 96), some (.ref v1), some (.int v2), some (.int v3), none, none, none]) (jle_v (jle_v (jle_v (jle_v (jle_n (jle_n (jle_n jle_nil))))))) ?_
      exact kCh_findRing_l12_j112 hP hv1 hd K HL HE0
noncomputable def fCh_findRing_l12_b (p : Nat) (v1 : Nat) (v2 : Int32) (v3 : Int32) (h : jH) : Option ((Int32 × Int32 × jH) ⊕ (Int32 × jH)) :=
  (if v3 < (h.1 p 0) then
  (if v3 < 8 then
  (if jin v3 8 then
  (if (h.1 (v1 + 1) v3.toNatClampNeg) = 1 then
  fCh_findRing_l12_j52  p v1 v2 v3 h
  else
  (if jin v3 8 then
  (if (h.1 (v1 + 1) v3.toNatClampNeg) = 4 then
  fCh_findRing_l12_j52  p v1 v2 v3 h
  else
  fCh_findRing_l12_j112  p v1 v2 v3 h)
  else none))
  else none)
  else
  some (.inr (v2, h)))
  else
  some (.inr (v2, h)))
noncomputable def fCh_findRing_l12 (p : Nat) (v1 : Nat) : (Int32 × Int32 × jH) → Option ((Int32 × Int32 × jH) ⊕ (Int32 × jH)) :=
  fun (s : Int32 × Int32 × jH) => fCh_findRing_l12_b p v1 s.1 s.2.1 s.2.2
theorem kCh_findRing_l12_b {X : jX} {dd : Nat} {p d : Nat} {q : Nat → Nat} {Q : Option Value → jS → Prop} {v1 : Nat} {v2 : Int32} {v3 : Int32} {h : jH} (hP : jOK p d q) (hv1 : jcl 176 v1 = 6) (hd : 4 ≤ (dd + 1)) {z : (Int32 × Int32 × jH) ⊕ (Int32 × jH)} (K : fCh_findRing_l12_b p v1 v2 v3 h = some z) (HL : ∀ s : Int32 × Int32 × jH, z = .inl s → jEx X (dd + 1) jc_142 12 [some (.ref 96), some (.ref v1), some (.int s.1), some (.int s.2.1), none, none, none] [] (176, jRf p d q, s.2.2) Q) (HE0 : ∀ x : Int32 × jH, z = .inr x → jEx X (dd + 1) jc_142 118 [none, none, some (.int x.1), none, none, none, none] [] (176, jRf p d q, x.2) Q) :
    jEx X (dd + 1) jc_142 12 [some (.ref 96), some (.ref v1), some (.int v2), some (.int v3), none, none, none] [] (176, jRf p d q, h) Q := by
  unfold fCh_findRing_l12_b at K
  refine jx_next (pc := 12) (pc' := 13) rfl rfl ?_
  refine jx_next (pc := 13) (pc' := 14) rfl rfl ?_
  refine jx_getr2 (pc := 14) rfl jko_96 jr_11_0 ?_
  refine jx_callv (pc := 17) (o := 79) (rest := [.int v3]) rfl ⟨by decide, by decide⟩ rfl jko_79 (Nat.le_of_ble_eq_true rfl) ?_
  refine kPy_plan hP (by omega) rfl ?_
  refine jx_geti (pc := 20) rfl hP.1 ?_
  refine jx_icge (pc := 23) rfl (fun hc3 => ?_) (fun hc3 => ?_)
  · replace K := (if_pos hc3).symm.trans K
    refine jx_next (pc := 26) (pc' := 27) rfl rfl ?_
    refine jx_next (pc := 27) (pc' := 29) rfl rfl ?_
    refine jx_icge (pc := 29) rfl (fun hc4 => ?_) (fun hc4 => ?_)
    · replace K := (if_pos hc4).symm.trans K
      refine jx_next (pc := 32) (pc' := 33) rfl rfl ?_
      refine jx_getr2 (pc := 33) rfl hv1 (jrm_6_2 hv1) ?_
      refine jx_next (pc := 36) (pc' := 37) rfl rfl ?_
      obtain ⟨hg5, K⟩ := jguard K
      refine jx_iald2 (pc := 37) rfl (jkm_6_2 hv1) (jnm_6_2 hv1) hg5 ?_
      refine jx_next (pc := 38) (pc' := 39) rfl rfl ?_
      refine jx_iceq (pc := 39) rfl (fun hc6 => ?_) (fun hc6 => ?_)
      · replace K := (if_pos hc6).symm.trans K
        refine jx_le (pl' := [some (.ref 96), some (.ref v1), some (.int v2), some (.int v3), none, none, none]) (jle_v (jle_v (jle_v (jle_v (jle_n (jle_n (jle_n jle_nil))))))) ?_
        exact kCh_findRing_l12_j52 hP hv1 hd K HL HE0
      · replace K := (if_neg hc6).symm.trans K
        refine jx_next (pc := 42) (pc' := 43) rfl rfl ?_
        refine jx_getr2 (pc := 43) rfl hv1 (jrm_6_2 hv1) ?_
        refine jx_next (pc := 46) (pc' := 47) rfl rfl ?_
        obtain ⟨hg12, K⟩ := jguard K
        refine jx_iald2 (pc := 47) rfl (jkm_6_2 hv1) (jnm_6_2 hv1) hg12 ?_
        refine jx_next (pc := 48) (pc' := 49) rfl rfl ?_
        refine jx_icne (pc := 49) rfl (fun hc13 => ?_) (fun hc13 => ?_)
        · replace K := (if_pos hc13).symm.trans K
          refine jx_le (pl' := [some (.ref 96), some (.ref v1), some (.int v2), some (.int v3), none, none, none]) (jle_v (jle_v (jle_v (jle_v (jle_n (jle_n (jle_n jle_nil))))))) ?_
          exact kCh_findRing_l12_j52 hP hv1 hd K HL HE0
        · replace K := (if_neg hc13).symm.trans K
          refine jx_le (pl' := [some (.ref 96), some (.ref v1), some (.int v2), some (.int v3), none, none, none]) (jle_v (jle_v (jle_v (jle_v (jle_n (jle_n (jle_n jle_nil))))))) ?_
          exact kCh_findRing_l12_j112 hP hv1 hd K HL HE0
    · replace K := (if_neg hc4).symm.trans K
      obtain rfl := Option.some.inj K
      refine jx_le (pl' := [none, none, some (.int v2), none, none, none, none]) (jle_n (jle_n (jle_v (jle_n (jle_n (jle_n (jle_n jle_nil))))))) ?_
      exact HE0 _ rfl
  · replace K := (if_neg hc3).symm.trans K
    obtain rfl := Option.some.inj K
    refine jx_le (pl' := [none, none, some (.int v2), none, none, none, none]) (jle_n (jle_n (jle_v (jle_n (jle_n (jle_n (jle_n jle_nil))))))) ?_
    exact HE0 _ rfl
theorem kCh_findRing_l12_w {X : jX} {dd : Nat} {p d : Nat} {q : Nat → Nat} {Q : Option Value → jS → Prop} {v1 : Nat} (hP : jOK p d q) (hv1 : jcl 176 v1 = 6) (hd : 4 ≤ (dd + 1)) {s : Int32 × Int32 × jH} {x : Int32 × jH} (K : jlim (fCh_findRing_l12 p v1) s = some x) (HE : jEx X (dd + 1) jc_142 118 [none, none, some (.int x.1), none, none, none, none] [] (176, jRf p d q, x.2) Q) :
    jEx X (dd + 1) jc_142 12 [some (.ref 96), some (.ref v1), some (.int s.1), some (.int s.2.1), none, none, none] [] (176, jRf p d q, s.2.2) Q := by
  refine jlim_ok (G := fun s : Int32 × Int32 × jH => jEx X (dd + 1) jc_142 12 [some (.ref 96), some (.ref v1), some (.int s.1), some (.int s.2.1), none, none, none] [] (176, jRf p d q, s.2.2) Q) (GX := fun x : Int32 × jH => jEx X (dd + 1) jc_142 118 [none, none, some (.int x.1), none, none, none, none] [] (176, jRf p d q, x.2) Q) (fun s z hz HL HE => ?_) K HE
  exact kCh_findRing_l12_b hP hv1 hd hz HL HE
/-- AndGuest$Choices.findRing()I -/
noncomputable def fCh_findRing (p : Nat)  (h : jH) : Option (Int32 × jH) :=
  (Option.bind (jlim (fCh_findRing_l12  p 11) ((-1), 0, h)) (fun (x14 : Int32 × jH) =>
  some (x14.1, x14.2)))
theorem kCh_findRing {X : jX} {dd : Nat} {p d : Nat} {q : Nat → Nat} {Q : Option Value → jS → Prop}  {h : jH} (hP : jOK p d q)  (hd : 4 ≤ dd) {z : Int32 × jH} (K : fCh_findRing p  h = some z) (HQ : Q (some (.int z.1)) (176, jRf p d q, z.2)) :
    jCa X dd 142 [.ref 96] (176, jRf p d q, h) Q := by
  obtain ⟨dd, rfl⟩ : ∃ d9, dd = d9 + 1 := ⟨dd - 1, by omega⟩
  unfold fCh_findRing at K
  refine jCa_of (es := jc_142) (pl := [some (.ref 96), none, none, none, none, none, none]) (M := jm_142) rfl rfl rfl rfl ?_
  refine jx_next (pc := 0) (pc' := 1) rfl rfl ?_
  refine jx_getr2 (pc := 1) rfl jko_96 jr_11_0 ?_
  refine jx_callv (pc := 4) (o := 79) (rest := []) rfl ⟨by decide, by decide⟩ rfl jko_79 (Nat.le_of_ble_eq_true rfl) ?_
  refine kPy_standing hP (by omega) rfl ?_
  refine jx_stan (pc := 7) (p2 := [some (.ref 96), some (.ref 11), none, none, none, none, none]) rfl (jlt rfl) rfl ?_
  refine jx_next (pc := 8) (pc' := 9) rfl rfl ?_
  refine jx_stin (pc := 9) (p2 := [some (.ref 96), some (.ref 11), some (.int (-1)), none, none, none, none]) rfl (jlt rfl) rfl ?_
  refine jx_next (pc := 10) (pc' := 11) rfl rfl ?_
  refine jx_stin (pc := 11) (p2 := [some (.ref 96), some (.ref 11), some (.int (-1)), some (.int 0), none, none, none]) rfl (jlt rfl) rfl ?_
  refine jx_le (pl' := [some (.ref 96), some (.ref 11), some (.int (-1)), some (.int 0), none, none, none]) (jle_v (jle_v (jle_v (jle_v (jle_n (jle_n (jle_n jle_nil))))))) ?_
  obtain ⟨x14, hz_x14, K⟩ := Option.bind_eq_some_iff.mp K
  refine kCh_findRing_l12_w hP jko_11 hd hz_x14 ?_
  refine jx_next (pc := 118) (pc' := 119) rfl rfl ?_
  obtain rfl := Option.some.inj K
  exact jx_iret (pc := 119) rfl HQ
/-- AndGuest$Choices.ringCost()J -/
noncomputable def fCh_ringCost  (h : jH) : Int64 :=
  (h.2 96 5 : Int64)
theorem kCh_ringCost {X : jX} {dd : Nat} {p d : Nat} {q : Nat → Nat} {Q : Option Value → jS → Prop}  {h : jH} (hP : jOK p d q)  (hd : 0 ≤ dd) {z : Int64} (K : fCh_ringCost  h = z) (HQ : Q (some (.long z)) (176, jRf p d q, h)) :
    jCa X dd 145 [.ref 96] (176, jRf p d q, h) Q := by
  unfold fCh_ringCost at K
  refine jCa_of (es := jc_145) (pl := [some (.ref 96)]) (M := jm_145) rfl rfl rfl rfl ?_
  refine jx_next (pc := 0) (pc' := 1) rfl rfl ?_
  refine jx_getl (pc := 1) rfl jko_96 ?_
  obtain rfl := K
  exact jx_ret (pc := 4) rfl rfl HQ
/-- AndGuest.ring(I)I -/
noncomputable def fA_ring (p : Nat) (v1 : Int32) (h : jH) : Option (Int32 × jH) :=
  (if v1 < 0 then
  some ((-1), h)
  else
  (if 1 < v1 then
  some ((-1), h)
  else
  (Option.bind (fCh_findRing p h) (fun (z3 : Int32 × jH) =>
  (if z3.1 = (-1) then
  some (z3.1, z3.2)
  else
  (if v1 = 0 then
  some (z3.1, z3.2)
  else
  some (((fCh_ringCost z3.2) / 10000000).toInt32, z3.2)))))))
theorem kA_ring {X : jX} {dd : Nat} {p d : Nat} {q : Nat → Nat} {Q : Option Value → jS → Prop} {v1 : Int32} {h : jH} (hP : jOK p d q)  (hd : 5 ≤ dd) {z : Int32 × jH} (K : fA_ring p v1 h = some z) (HQ : Q (some (.int z.1)) (176, jRf p d q, z.2)) :
    jCa X dd 141 [.ref 1, .int v1] (176, jRf p d q, h) Q := by
  obtain ⟨dd, rfl⟩ : ∃ d9, dd = d9 + 1 := ⟨dd - 1, by omega⟩
  unfold fA_ring at K
  refine jCa_of (es := jc_141) (pl := [some (.ref 1), some (.int v1), none]) (M := jm_141) rfl rfl rfl rfl ?_
  refine jx_next (pc := 0) (pc' := 1) rfl rfl ?_
  refine jx_iflt (pc := 1) rfl (fun hc1 => ?_) (fun hc1 => ?_)
  · replace K := (if_pos hc1).symm.trans K
    refine jx_next (pc := 9) (pc' := 10) rfl rfl ?_
    obtain rfl := Option.some.inj K
    exact jx_iret (pc := 10) rfl HQ
  · replace K := (if_neg hc1).symm.trans K
    refine jx_next (pc := 4) (pc' := 5) rfl rfl ?_
    refine jx_next (pc := 5) (pc' := 6) rfl rfl ?_
    refine jx_icle (pc := 6) rfl (fun hc2 => ?_) (fun hc2 => ?_)
    · replace K := (if_pos hc2).symm.trans K
      refine jx_next (pc := 9) (pc' := 10) rfl rfl ?_
      obtain rfl := Option.some.inj K
      exact jx_iret (pc := 10) rfl HQ
    · replace K := (if_neg hc2).symm.trans K
      refine jx_next (pc := 11) (pc' := 12) rfl rfl ?_
      refine jx_getr2 (pc := 12) rfl jko_1 jr_1_9 ?_
      refine jx_callv (pc := 15) (o := 96) (rest := []) rfl ⟨by decide, by decide⟩ rfl jko_96 (Nat.le_of_ble_eq_true rfl) ?_
      obtain ⟨z3, hz_z3, K⟩ := Option.bind_eq_some_iff.mp K
      refine kCh_findRing hP (by omega) hz_z3 ?_
      refine jx_stin (pc := 18) (p2 := [some (.ref 1), some (.int v1), some (.int z3.1)]) rfl (jlt rfl) rfl ?_
      refine jx_next (pc := 19) (pc' := 20) rfl rfl ?_
      refine jx_next (pc := 20) (pc' := 21) rfl rfl ?_
      refine jx_iceq (pc := 21) rfl (fun hc4 => ?_) (fun hc4 => ?_)
      · replace K := (if_pos hc4).symm.trans K
        refine jx_next (pc := 28) (pc' := 29) rfl rfl ?_
        obtain rfl := Option.some.inj K
        exact jx_iret (pc := 29) rfl HQ
      · replace K := (if_neg hc4).symm.trans K
        refine jx_next (pc := 24) (pc' := 25) rfl rfl ?_
        refine jx_ifne (pc := 25) rfl (fun hc5 => ?_) (fun hc5 => ?_)
        · replace K := (if_pos hc5).symm.trans K
          refine jx_next (pc := 28) (pc' := 29) rfl rfl ?_
          obtain rfl := Option.some.inj K
          exact jx_iret (pc := 29) rfl HQ
        · replace K := (if_neg hc5).symm.trans K
          refine jx_next (pc := 30) (pc' := 31) rfl rfl ?_
          refine jx_getr2 (pc := 31) rfl jko_1 jr_1_9 ?_
          refine jx_callv (pc := 34) (o := 96) (rest := []) rfl ⟨by decide, by decide⟩ rfl jko_96 (Nat.le_of_ble_eq_true rfl) ?_
          refine kCh_ringCost hP (by omega) rfl ?_
          refine jx_next (pc := 37) (pc' := 40) rfl rfl ?_
          refine jx_ldiv (pc := 40) rfl (by decide) ?_
          refine jx_next (pc := 41) (pc' := 42) rfl rfl ?_
          obtain rfl := Option.some.inj K
          exact jx_iret (pc := 42) rfl HQ
noncomputable def fPy_fullMillionths_l7_j116 (p : Nat) (v1 : Int64) (v3 : Int64) (v5 : Int32) (h : jH) : Option ((Int64 × Int64 × Int32) ⊕ (Int64 × Int64)) :=
  some (.inl (v1, v3, v5 + 1))
theorem kPy_fullMillionths_l7_j116 {X : jX} {dd : Nat} {p d : Nat} {q : Nat → Nat} {Q : Option Value → jS → Prop} {v1 : Int64} {v3 : Int64} {v5 : Int32} {h : jH} (hP : jOK p d q)  (hd : 1 ≤ (dd + 1)) {z : (Int64 × Int64 × Int32) ⊕ (Int64 × Int64)} (K : fPy_fullMillionths_l7_j116 p v1 v3 v5 h = some z) (HL : ∀ s : Int64 × Int64 × Int32, z = .inl s → jEx X (dd + 1) jc_147 7 [some (.ref 79), some (.long s.1), none, some (.long s.2.1), none, some (.int s.2.2), none, none] [] (176, jRf p d q, h) Q) (HE0 : ∀ x : Int64 × Int64, z = .inr x → jEx X (dd + 1) jc_147 122 [none, some (.long x.1), none, some (.long x.2), none, none, none, none] [] (176, jRf p d q, h) Q) :
    jEx X (dd + 1) jc_147 116 [some (.ref 79), some (.long v1), none, some (.long v3), none, some (.int v5), none, none] [] (176, jRf p d q, h) Q := by
  unfold fPy_fullMillionths_l7_j116 at K
  refine jx_inc (pc := 116) (x := v5) (p2 := [some (.ref 79), some (.long v1), none, some (.long v3), none, some (.int (v5 + 1)), none, none]) rfl rfl (jlt rfl) rfl ?_
  refine jx_next (pc := 119) (pc' := 7) rfl rfl ?_
  obtain rfl := Option.some.inj K
  refine jx_le (pl' := [some (.ref 79), some (.long v1), none, some (.long v3), none, some (.int (v5 + 1)), none, none]) (jle_v (jle_v (jle_n (jle_v (jle_n (jle_v (jle_n (jle_n jle_nil)))))))) ?_
  exact HL (v1, v3, v5 + 1) rfl
noncomputable def fPy_fullMillionths_l7_b (p : Nat) (v1 : Int64) (v3 : Int64) (v5 : Int32) (h : jH) : Option ((Int64 × Int64 × Int32) ⊕ (Int64 × Int64)) :=
  (if v5 < (h.1 p 0) then
  (if v5 < 8 then
  (if jin v5 8 then
  (if jin v5 8 then
  (if (h.1 (11 + 1) v5.toNatClampNeg) = 2 then
  fPy_fullMillionths_l7_j116  p (v1 * ((h.1 (p + 2) v5.toNatClampNeg).toInt64)) (v3 * ((fMt_min 10 ((h.1 (p + 2) v5.toNatClampNeg) + (h.1 p 9))).toInt64)) v5 h
  else
  (if jin v5 8 then
  (if (h.1 (11 + 1) v5.toNatClampNeg) = 3 then
  fPy_fullMillionths_l7_j116  p (v1 * ((10 - (h.1 (p + 2) v5.toNatClampNeg)).toInt64)) (v3 * ((10 - (fMt_min 10 ((h.1 (p + 2) v5.toNatClampNeg) + (h.1 p 9)))).toInt64)) v5 h
  else
  fPy_fullMillionths_l7_j116  p v1 v3 v5 h)
  else none))
  else none)
  else none)
  else
  some (.inr (v1, v3)))
  else
  some (.inr (v1, v3)))
noncomputable def fPy_fullMillionths_l7 (p : Nat)  (h : jH) : (Int64 × Int64 × Int32) → Option ((Int64 × Int64 × Int32) ⊕ (Int64 × Int64)) :=
  fun (s : Int64 × Int64 × Int32) => fPy_fullMillionths_l7_b p s.1 s.2.1 s.2.2 h
theorem kPy_fullMillionths_l7_b {X : jX} {dd : Nat} {p d : Nat} {q : Nat → Nat} {Q : Option Value → jS → Prop} {v1 : Int64} {v3 : Int64} {v5 : Int32} {h : jH} (hP : jOK p d q)  (hd : 1 ≤ (dd + 1)) {z : (Int64 × Int64 × Int32) ⊕ (Int64 × Int64)} (K : fPy_fullMillionths_l7_b p v1 v3 v5 h = some z) (HL : ∀ s : Int64 × Int64 × Int32, z = .inl s → jEx X (dd + 1) jc_147 7 [some (.ref 79), some (.long s.1), none, some (.long s.2.1), none, some (.int s.2.2), none, none] [] (176, jRf p d q, h) Q) (HE0 : ∀ x : Int64 × Int64, z = .inr x → jEx X (dd + 1) jc_147 122 [none, some (.long x.1), none, some (.long x.2), none, none, none, none] [] (176, jRf p d q, h) Q) :
    jEx X (dd + 1) jc_147 7 [some (.ref 79), some (.long v1), none, some (.long v3), none, some (.int v5), none, none] [] (176, jRf p d q, h) Q := by
  unfold fPy_fullMillionths_l7_b at K
  refine jx_next (pc := 7) (pc' := 9) rfl rfl ?_
  refine jx_next (pc := 9) (pc' := 10) rfl rfl ?_
  refine jx_getr2 (pc := 10) rfl jko_79 jr_8_4 ?_
  refine jx_geti (pc := 13) rfl hP.1 ?_
  refine jx_icge (pc := 16) rfl (fun hc1 => ?_) (fun hc1 => ?_)
  · replace K := (if_pos hc1).symm.trans K
    refine jx_next (pc := 19) (pc' := 21) rfl rfl ?_
    refine jx_next (pc := 21) (pc' := 23) rfl rfl ?_
    refine jx_icge (pc := 23) rfl (fun hc2 => ?_) (fun hc2 => ?_)
    · replace K := (if_pos hc2).symm.trans K
      refine jx_next (pc := 26) (pc' := 27) rfl rfl ?_
      refine jx_getr2 (pc := 27) rfl jko_79 jr_8_4 ?_
      refine jx_getr2 (pc := 30) rfl hP.1 (jrm_10_11 hP.1) ?_
      refine jx_next (pc := 33) (pc' := 35) rfl rfl ?_
      obtain ⟨hg3, K⟩ := jguard K
      refine jx_iald2 (pc := 35) rfl (jkm_10_11 hP.1) (jnm_10_11 hP.1) hg3 ?_
      refine jx_sti (pc := 36) (p2 := [some (.ref 79), some (.long v1), none, some (.long v3), none, some (.int v5), some (.int (h.1 (p + 2) v5.toNatClampNeg)), none]) rfl (jlt rfl) rfl ?_
      refine jx_next (pc := 38) (pc' := 40) rfl rfl ?_
      refine jx_next (pc := 40) (pc' := 42) rfl rfl ?_
      refine jx_next (pc := 42) (pc' := 43) rfl rfl ?_
      refine jx_getr2 (pc := 43) rfl jko_79 jr_8_4 ?_
      refine jx_geti (pc := 46) rfl hP.1 ?_
      refine jx_next (pc := 49) (pc' := 50) rfl rfl ?_
      refine jx_calls (pc := 50) rfl (Nat.le_of_ble_eq_true rfl) (Nat.le_of_ble_eq_true rfl) ?_
      refine kMt_min  (by omega) rfl ?_
      refine jx_sti (pc := 53) (p2 := [some (.ref 79), some (.long v1), none, some (.long v3), none, some (.int v5), some (.int (h.1 (p + 2) v5.toNatClampNeg)), some (.int (fMt_min 10 ((h.1 (p + 2) v5.toNatClampNeg) + (h.1 p 9))))]) rfl (jlt rfl) rfl ?_
      refine jx_next (pc := 55) (pc' := 56) rfl rfl ?_
      refine jx_getr2 (pc := 56) rfl jko_79 jr_8_0 ?_
      refine jx_getr2 (pc := 59) rfl jko_11 (jrm_6_2 jko_11) ?_
      refine jx_next (pc := 62) (pc' := 64) rfl rfl ?_
      obtain ⟨hg5, K⟩ := jguard K
      refine jx_iald2 (pc := 64) rfl (jkm_6_2 jko_11) (jnm_6_2 jko_11) hg5 ?_
      refine jx_next (pc := 65) (pc' := 66) rfl rfl ?_
      refine jx_icne (pc := 66) rfl (fun hc6 => ?_) (fun hc6 => ?_)
      · replace K := (if_pos hc6).symm.trans K
        refine jx_next (pc := 69) (pc' := 70) rfl rfl ?_
        refine jx_next (pc := 70) (pc' := 72) rfl rfl ?_
        refine jx_next (pc := 72) (pc' := 73) rfl rfl ?_
        refine jx_next (pc := 73) (pc' := 74) rfl rfl ?_
        refine jx_stln (pc := 74) (p2 := [some (.ref 79), some (.long (v1 * ((h.1 (p + 2) v5.toNatClampNeg).toInt64))), none, some (.long v3), none, some (.int v5), some (.int (h.1 (p + 2) v5.toNatClampNeg)), some (.int (fMt_min 10 ((h.1 (p + 2) v5.toNatClampNeg) + (h.1 p 9))))]) rfl (jlt rfl) rfl ?_
        refine jx_next (pc := 75) (pc' := 76) rfl rfl ?_
        refine jx_next (pc := 76) (pc' := 78) rfl rfl ?_
        refine jx_next (pc := 78) (pc' := 79) rfl rfl ?_
        refine jx_next (pc := 79) (pc' := 80) rfl rfl ?_
        refine jx_stln (pc := 80) (p2 := [some (.ref 79), some (.long (v1 * ((h.1 (p + 2) v5.toNatClampNeg).toInt64))), none, some (.long (v3 * ((fMt_min 10 ((h.1 (p + 2) v5.toNatClampNeg) + (h.1 p 9))).toInt64))), none, some (.int v5), some (.int (h.1 (p + 2) v5.toNatClampNeg)), some (.int (fMt_min 10 ((h.1 (p + 2) v5.toNatClampNeg) + (h.1 p 9))))]) rfl (jlt rfl) rfl ?_
        refine jx_next (pc := 81) (pc' := 116) rfl rfl ?_
        refine jx_le (pl' := [some (.ref 79), some (.long (v1 * ((h.1 (p + 2) v5.toNatClampNeg).toInt64))), none, some (.long (v3 * ((fMt_min 10 ((h.1 (p + 2) v5.toNatClampNeg) + (h.1 p 9))).toInt64))), none, some (.int v5), none, none]) (jle_v (jle_v (jle_n (jle_v (jle_n (jle_v (jle_n (jle_n jle_nil)))))))) ?_
        exact kPy_fullMillionths_l7_j116 hP  hd K HL HE0
      · replace K := (if_neg hc6).symm.trans K
        refine jx_next (pc := 84) (pc' := 85) rfl rfl ?_
        refine jx_getr2 (pc := 85) rfl jko_79 jr_8_0 ?_
        refine jx_getr2 (pc := 88) rfl jko_11 (jrm_6_2 jko_11) ?_
        refine jx_next (pc := 91) (pc' := 93) rfl rfl ?_
        obtain ⟨hg7, K⟩ := jguard K
        refine jx_iald2 (pc := 93) rfl (jkm_6_2 jko_11) (jnm_6_2 jko_11) hg7 ?_
        refine jx_next (pc := 94) (pc' := 95) rfl rfl ?_
        refine jx_icne (pc := 95) rfl (fun hc8 => ?_) (fun hc8 => ?_)
        · replace K := (if_pos hc8).symm.trans K
          refine jx_next (pc := 98) (pc' := 99) rfl rfl ?_
          refine jx_next (pc := 99) (pc' := 101) rfl rfl ?_
          refine jx_next (pc := 101) (pc' := 103) rfl rfl ?_
          refine jx_next (pc := 103) (pc' := 104) rfl rfl ?_
          refine jx_next (pc := 104) (pc' := 105) rfl rfl ?_
          refine jx_next (pc := 105) (pc' := 106) rfl rfl ?_
          refine jx_stln (pc := 106) (p2 := [some (.ref 79), some (.long (v1 * ((10 - (h.1 (p + 2) v5.toNatClampNeg)).toInt64))), none, some (.long v3), none, some (.int v5), some (.int (h.1 (p + 2) v5.toNatClampNeg)), some (.int (fMt_min 10 ((h.1 (p + 2) v5.toNatClampNeg) + (h.1 p 9))))]) rfl (jlt rfl) rfl ?_
          refine jx_next (pc := 107) (pc' := 108) rfl rfl ?_
          refine jx_next (pc := 108) (pc' := 110) rfl rfl ?_
          refine jx_next (pc := 110) (pc' := 112) rfl rfl ?_
          refine jx_next (pc := 112) (pc' := 113) rfl rfl ?_
          refine jx_next (pc := 113) (pc' := 114) rfl rfl ?_
          refine jx_next (pc := 114) (pc' := 115) rfl rfl ?_
          refine jx_stln (pc := 115) (p2 := [some (.ref 79), some (.long (v1 * ((10 - (h.1 (p + 2) v5.toNatClampNeg)).toInt64))), none, some (.long (v3 * ((10 - (fMt_min 10 ((h.1 (p + 2) v5.toNatClampNeg) + (h.1 p 9)))).toInt64))), none, some (.int v5), some (.int (h.1 (p + 2) v5.toNatClampNeg)), some (.int (fMt_min 10 ((h.1 (p + 2) v5.toNatClampNeg) + (h.1 p 9))))]) rfl (jlt rfl) rfl ?_
          refine jx_le (pl' := [some (.ref 79), some (.long (v1 * ((10 - (h.1 (p + 2) v5.toNatClampNeg)).toInt64))), none, some (.long (v3 * ((10 - (fMt_min 10 ((h.1 (p + 2) v5.toNatClampNeg) + (h.1 p 9)))).toInt64))), none, some (.int v5), none, none]) (jle_v (jle_v (jle_n (jle_v (jle_n (jle_v (jle_n (jle_n jle_nil)))))))) ?_
          exact kPy_fullMillionths_l7_j116 hP  hd K HL HE0
        · replace K := (if_neg hc8).symm.trans K
          refine jx_le (pl' := [some (.ref 79), some (.long v1), none, some (.long v3), none, some (.int v5), none, none]) (jle_v (jle_v (jle_n (jle_v (jle_n (jle_v (jle_n (jle_n jle_nil)))))))) ?_
          exact kPy_fullMillionths_l7_j116 hP  hd K HL HE0
    · replace K := (if_neg hc2).symm.trans K
      obtain rfl := Option.some.inj K
      refine jx_le (pl' := [none, some (.long v1), none, some (.long v3), none, none, none, none]) (jle_n (jle_v (jle_n (jle_v (jle_n (jle_n (jle_n (jle_n jle_nil)))))))) ?_
      exact HE0 _ rfl
  · replace K := (if_neg hc1).symm.trans K
    obtain rfl := Option.some.inj K
    refine jx_le (pl' := [none, some (.long v1), none, some (.long v3), none, none, none, none]) (jle_n (jle_v (jle_n (jle_v (jle_n (jle_n (jle_n (jle_n jle_nil)))))))) ?_
    exact HE0 _ rfl
theorem kPy_fullMillionths_l7_w {X : jX} {dd : Nat} {p d : Nat} {q : Nat → Nat} {Q : Option Value → jS → Prop}  {h : jH} (hP : jOK p d q)  (hd : 1 ≤ (dd + 1)) {s : Int64 × Int64 × Int32} {x : Int64 × Int64} (K : jlim (fPy_fullMillionths_l7 p  h) s = some x) (HE : jEx X (dd + 1) jc_147 122 [none, some (.long x.1), none, some (.long x.2), none, none, none, none] [] (176, jRf p d q, h) Q) :
    jEx X (dd + 1) jc_147 7 [some (.ref 79), some (.long s.1), none, some (.long s.2.1), none, some (.int s.2.2), none, none] [] (176, jRf p d q, h) Q := by
  refine jlim_ok (G := fun s : Int64 × Int64 × Int32 => jEx X (dd + 1) jc_147 7 [some (.ref 79), some (.long s.1), none, some (.long s.2.1), none, some (.int s.2.2), none, none] [] (176, jRf p d q, h) Q) (GX := fun x : Int64 × Int64 => jEx X (dd + 1) jc_147 122 [none, some (.long x.1), none, some (.long x.2), none, none, none, none] [] (176, jRf p d q, h) Q) (fun s z hz HL HE => ?_) K HE
  exact kPy_fullMillionths_l7_b hP  hd hz HL HE
/-- AndGuest$Party.fullMillionths()I -/
noncomputable def fPy_fullMillionths (p : Nat)  (h : jH) : Option Int32 :=
  (Option.bind (jlim (fPy_fullMillionths_l7  p h) (1, 1, 0)) (fun (x9 : Int64 × Int64) =>
  (if 0 < (x9.1 + x9.2) then
  (if ¬ (x9.1 + x9.2) = 0 then
  some (((x9.2 * 1000000) / (x9.1 + x9.2)).toInt32 : Int32)
  else none)
  else
  some (500000 : Int32))))
theorem kPy_fullMillionths {X : jX} {dd : Nat} {p d : Nat} {q : Nat → Nat} {Q : Option Value → jS → Prop}  {h : jH} (hP : jOK p d q)  (hd : 1 ≤ dd) {z : Int32} (K : fPy_fullMillionths p  h = some z) (HQ : Q (some (.int z)) (176, jRf p d q, h)) :
    jCa X dd 147 [.ref 79] (176, jRf p d q, h) Q := by
  obtain ⟨dd, rfl⟩ : ∃ d9, dd = d9 + 1 := ⟨dd - 1, by omega⟩
  unfold fPy_fullMillionths at K
  refine jCa_of (es := jc_147) (pl := [some (.ref 79), none, none, none, none, none, none, none]) (M := jm_147) rfl rfl rfl rfl ?_
  refine jx_next (pc := 0) (pc' := 1) rfl rfl ?_
  refine jx_stln (pc := 1) (p2 := [some (.ref 79), some (.long 1), none, none, none, none, none, none]) rfl (jlt rfl) rfl ?_
  refine jx_next (pc := 2) (pc' := 3) rfl rfl ?_
  refine jx_stln (pc := 3) (p2 := [some (.ref 79), some (.long 1), none, some (.long 1), none, none, none, none]) rfl (jlt rfl) rfl ?_
  refine jx_next (pc := 4) (pc' := 5) rfl rfl ?_
  refine jx_sti (pc := 5) (p2 := [some (.ref 79), some (.long 1), none, some (.long 1), none, some (.int 0), none, none]) rfl (jlt rfl) rfl ?_
  refine jx_le (pl' := [some (.ref 79), some (.long 1), none, some (.long 1), none, some (.int 0), none, none]) (jle_v (jle_v (jle_n (jle_v (jle_n (jle_v (jle_n (jle_n jle_nil)))))))) ?_
  obtain ⟨x9, hz_x9, K⟩ := Option.bind_eq_some_iff.mp K
  refine kPy_fullMillionths_l7_w hP  hd hz_x9 ?_
  refine jx_next (pc := 122) (pc' := 123) rfl rfl ?_
  refine jx_next (pc := 123) (pc' := 124) rfl rfl ?_
  refine jx_next (pc := 124) (pc' := 125) rfl rfl ?_
  refine jx_stl (pc := 125) (p2 := [none, some (.long x9.1), none, some (.long x9.2), none, some (.long (x9.1 + x9.2)), none, none]) rfl (jlt rfl) rfl ?_
  refine jx_next (pc := 127) (pc' := 129) rfl rfl ?_
  refine jx_next (pc := 129) (pc' := 130) rfl rfl ?_
  refine jx_lcgt (pc := 130) rfl rfl (fun hc10 => ?_) (fun hc10 => ?_)
  · replace K := (if_pos hc10).symm.trans K
    refine jx_next (pc := 139) (pc' := 140) rfl rfl ?_
    refine jx_next (pc := 140) (pc' := 143) rfl rfl ?_
    refine jx_next (pc := 143) (pc' := 144) rfl rfl ?_
    refine jx_next (pc := 144) (pc' := 146) rfl rfl ?_
    obtain ⟨hg, K⟩ := jguard K
    refine jx_ldiv (pc := 146) rfl hg ?_
    refine jx_next (pc := 147) (pc' := 148) rfl rfl ?_
    obtain rfl := Option.some.inj K
    exact jx_iret (pc := 148) rfl HQ
  · replace K := (if_neg hc10).symm.trans K
    refine jx_next (pc := 134) (pc' := 136) rfl rfl ?_
    refine jx_next (pc := 136) (pc' := 148) rfl rfl ?_
    obtain rfl := Option.some.inj K
    exact jx_iret (pc := 148) rfl HQ
/-- AndGuest.full()I -/
noncomputable def fA_full (p : Nat)  (h : jH) : Option Int32 :=
  (if (h.1 1 12) = 0 then
  some ((-1) : Int32)
  else
  (Option.bind (fPy_fullMillionths p h) (fun (z2 : Int32) =>
  some (z2 : Int32))))
theorem kA_full {X : jX} {dd : Nat} {p d : Nat} {q : Nat → Nat} {Q : Option Value → jS → Prop}  {h : jH} (hP : jOK p d q)  (hd : 2 ≤ dd) {z : Int32} (K : fA_full p  h = some z) (HQ : Q (some (.int z)) (176, jRf p d q, h)) :
    jCa X dd 146 [.ref 1] (176, jRf p d q, h) Q := by
  obtain ⟨dd, rfl⟩ : ∃ d9, dd = d9 + 1 := ⟨dd - 1, by omega⟩
  unfold fA_full at K
  refine jCa_of (es := jc_146) (pl := [some (.ref 1)]) (M := jm_146) rfl rfl rfl rfl ?_
  refine jx_next (pc := 0) (pc' := 1) rfl rfl ?_
  refine jx_getz (pc := 1) rfl jko_1 ?_
  refine jx_ifeq (pc := 4) rfl (fun hc1 => ?_) (fun hc1 => ?_)
  · replace K := (if_pos hc1).symm.trans K
    refine jx_next (pc := 17) (pc' := 18) rfl rfl ?_
    obtain rfl := Option.some.inj K
    exact jx_iret (pc := 18) rfl HQ
  · replace K := (if_neg hc1).symm.trans K
    refine jx_next (pc := 7) (pc' := 8) rfl rfl ?_
    refine jx_getr2 (pc := 8) rfl jko_1 jr_1_8 ?_
    refine jx_callv (pc := 11) (o := 79) (rest := []) rfl ⟨by decide, by decide⟩ rfl jko_79 (Nat.le_of_ble_eq_true rfl) ?_
    obtain ⟨z2, hz_z2, K⟩ := Option.bind_eq_some_iff.mp K
    refine kPy_fullMillionths hP (by omega) hz_z2 ?_
    refine jx_next (pc := 14) (pc' := 18) rfl rfl ?_
    obtain rfl := Option.some.inj K
    exact jx_iret (pc := 18) rfl HQ
/-- AndGuest$Plan.isSeen(III)Z -/
noncomputable def fPn_isSeen (o : Nat) (v1 : Int32) (v2 : Int32) (v3 : Int32) (h : jH) : Option Int32 :=
  (Option.bind (fPn_sumOver o v1 (o + 4) h) (fun (z1 : Int32) =>
  (if z1 = v2 then
  (Option.bind (fPn_sumOver o v1 (o + 3) h) (fun (z3 : Int32) =>
  (if z3 = v3 then
  some (1 : Int32)
  else
  some (0 : Int32))))
  else
  some (0 : Int32))))
theorem kPn_isSeen {X : jX} {dd : Nat} {p d : Nat} {q : Nat → Nat} {Q : Option Value → jS → Prop} {o : Nat} {v1 : Int32} {v2 : Int32} {v3 : Int32} {h : jH} (hP : jOK p d q) (ho : jcl 176 o = 10) (hd : 1 ≤ dd) {z : Int32} (K : fPn_isSeen o v1 v2 v3 h = some z) (HQ : Q (some (.int z)) (176, jRf p d q, h)) :
    jCa X dd 150 [.ref o, .int v1, .int v2, .int v3] (176, jRf p d q, h) Q := by
  obtain ⟨dd, rfl⟩ : ∃ d9, dd = d9 + 1 := ⟨dd - 1, by omega⟩
  unfold fPn_isSeen at K
  refine jCa_of (es := jc_150) (pl := [some (.ref o), some (.int v1), some (.int v2), some (.int v3)]) (M := jm_150) rfl rfl rfl rfl ?_
  refine jx_next (pc := 0) (pc' := 1) rfl rfl ?_
  refine jx_next (pc := 1) (pc' := 2) rfl rfl ?_
  refine jx_next (pc := 2) (pc' := 3) rfl rfl ?_
  refine jx_getr2 (pc := 3) rfl ho (jrm_10_13 ho) ?_
  refine jx_callv (pc := 6) (o := o) (rest := []) rfl ⟨by decide, by decide⟩ rfl ho (Nat.le_of_ble_eq_true rfl) ?_
  obtain ⟨z1, hz_z1, K⟩ := Option.bind_eq_some_iff.mp K
  refine kPn_sumOver hP ho (jkm_10_13 ho) (by omega) hz_z1 ?_
  refine jx_next (pc := 9) (pc' := 10) rfl rfl ?_
  refine jx_icne (pc := 10) rfl (fun hc2 => ?_) (fun hc2 => ?_)
  · replace K := (if_pos hc2).symm.trans K
    refine jx_next (pc := 13) (pc' := 14) rfl rfl ?_
    refine jx_next (pc := 14) (pc' := 15) rfl rfl ?_
    refine jx_next (pc := 15) (pc' := 16) rfl rfl ?_
    refine jx_getr2 (pc := 16) rfl ho (jrm_10_12 ho) ?_
    refine jx_callv (pc := 19) (o := o) (rest := []) rfl ⟨by decide, by decide⟩ rfl ho (Nat.le_of_ble_eq_true rfl) ?_
    obtain ⟨z3, hz_z3, K⟩ := Option.bind_eq_some_iff.mp K
    refine kPn_sumOver hP ho (jkm_10_12 ho) (by omega) hz_z3 ?_
    refine jx_next (pc := 22) (pc' := 23) rfl rfl ?_
    refine jx_icne (pc := 23) rfl (fun hc4 => ?_) (fun hc4 => ?_)
    · replace K := (if_pos hc4).symm.trans K
      refine jx_next (pc := 26) (pc' := 27) rfl rfl ?_
      refine jx_next (pc := 27) (pc' := 31) rfl rfl ?_
      obtain rfl := Option.some.inj K
      exact jx_zret (pc := 31) rfl (Or.inr rfl) HQ
    · replace K := (if_neg hc4).symm.trans K
      refine jx_next (pc := 30) (pc' := 31) rfl rfl ?_
      obtain rfl := Option.some.inj K
      exact jx_zret (pc := 31) rfl (Or.inl rfl) HQ
  · replace K := (if_neg hc2).symm.trans K
    refine jx_next (pc := 30) (pc' := 31) rfl rfl ?_
    obtain rfl := Option.some.inj K
    exact jx_zret (pc := 31) rfl (Or.inl rfl) HQ
noncomputable def fPn_seenCount_l5_j28 (o : Nat) (v1 : Int32) (v2 : Int32) (v3 : Int32) (v4 : Int32) (h : jH) : Option ((Int32 × Int32) ⊕ (Int32)) :=
  some (.inl (v3, v4 + 1))
theorem kPn_seenCount_l5_j28 {X : jX} {dd : Nat} {p d : Nat} {q : Nat → Nat} {Q : Option Value → jS → Prop} {o : Nat} {v1 : Int32} {v2 : Int32} {v3 : Int32} {v4 : Int32} {h : jH} (hP : jOK p d q) (ho : jcl 176 o = 10) (hd : 2 ≤ (dd + 1)) {z : (Int32 × Int32) ⊕ (Int32)} (K : fPn_seenCount_l5_j28 o v1 v2 v3 v4 h = some z) (HL : ∀ s : Int32 × Int32, z = .inl s → jEx X (dd + 1) jc_149 5 [some (.ref o), some (.int v1), some (.int v2), some (.int s.1), some (.int s.2)] [] (176, jRf p d q, h) Q) (HE0 : ∀ x : Int32, z = .inr x → jEx X (dd + 1) jc_149 34 [none, none, none, some (.int x), none] [] (176, jRf p d q, h) Q) :
    jEx X (dd + 1) jc_149 28 [some (.ref o), some (.int v1), some (.int v2), some (.int v3), some (.int v4)] [] (176, jRf p d q, h) Q := by
  unfold fPn_seenCount_l5_j28 at K
  refine jx_inc (pc := 28) (x := v4) (p2 := [some (.ref o), some (.int v1), some (.int v2), some (.int v3), some (.int (v4 + 1))]) rfl rfl (jlt rfl) rfl ?_
  refine jx_next (pc := 31) (pc' := 5) rfl rfl ?_
  obtain rfl := Option.some.inj K
  refine jx_le (pl' := [some (.ref o), some (.int v1), some (.int v2), some (.int v3), some (.int (v4 + 1))]) (jle_v (jle_v (jle_v (jle_v (jle_v jle_nil))))) ?_
  exact HL (v3, v4 + 1) rfl
noncomputable def fPn_seenCount_l5_b (o : Nat) (v1 : Int32) (v2 : Int32) (v3 : Int32) (v4 : Int32) (h : jH) : Option ((Int32 × Int32) ⊕ (Int32)) :=
  (if v4 < (fPn_allSets o h) then
  (Option.bind (fPn_isSeen o v4 v1 v2 h) (fun (z3 : Int32) =>
  (if z3 = 0 then
  fPn_seenCount_l5_j28  o v1 v2 v3 v4 h
  else
  fPn_seenCount_l5_j28  o v1 v2 (v3 + 1) v4 h)))
  else
  some (.inr v3))
noncomputable def fPn_seenCount_l5 (o : Nat) (v1 : Int32) (v2 : Int32) (h : jH) : (Int32 × Int32) → Option ((Int32 × Int32) ⊕ (Int32)) :=
  fun (s : Int32 × Int32) => fPn_seenCount_l5_b o v1 v2 s.1 s.2 h
theorem kPn_seenCount_l5_b {X : jX} {dd : Nat} {p d : Nat} {q : Nat → Nat} {Q : Option Value → jS → Prop} {o : Nat} {v1 : Int32} {v2 : Int32} {v3 : Int32} {v4 : Int32} {h : jH} (hP : jOK p d q) (ho : jcl 176 o = 10) (hd : 2 ≤ (dd + 1)) {z : (Int32 × Int32) ⊕ (Int32)} (K : fPn_seenCount_l5_b o v1 v2 v3 v4 h = some z) (HL : ∀ s : Int32 × Int32, z = .inl s → jEx X (dd + 1) jc_149 5 [some (.ref o), some (.int v1), some (.int v2), some (.int s.1), some (.int s.2)] [] (176, jRf p d q, h) Q) (HE0 : ∀ x : Int32, z = .inr x → jEx X (dd + 1) jc_149 34 [none, none, none, some (.int x), none] [] (176, jRf p d q, h) Q) :
    jEx X (dd + 1) jc_149 5 [some (.ref o), some (.int v1), some (.int v2), some (.int v3), some (.int v4)] [] (176, jRf p d q, h) Q := by
  unfold fPn_seenCount_l5_b at K
  refine jx_next (pc := 5) (pc' := 7) rfl rfl ?_
  refine jx_next (pc := 7) (pc' := 8) rfl rfl ?_
  refine jx_callv (pc := 8) (o := o) (rest := [.int v4]) rfl ⟨by decide, by decide⟩ rfl ho (Nat.le_of_ble_eq_true rfl) ?_
  refine kPn_allSets hP ho (by omega) rfl ?_
  refine jx_icge (pc := 11) rfl (fun hc2 => ?_) (fun hc2 => ?_)
  · replace K := (if_pos hc2).symm.trans K
    refine jx_next (pc := 14) (pc' := 15) rfl rfl ?_
    refine jx_next (pc := 15) (pc' := 17) rfl rfl ?_
    refine jx_next (pc := 17) (pc' := 18) rfl rfl ?_
    refine jx_next (pc := 18) (pc' := 19) rfl rfl ?_
    refine jx_callv (pc := 19) (o := o) (rest := []) rfl ⟨by decide, by decide⟩ rfl ho (Nat.le_of_ble_eq_true rfl) ?_
    obtain ⟨z3, hz_z3, K⟩ := Option.bind_eq_some_iff.mp K
    refine kPn_isSeen hP ho (by omega) hz_z3 ?_
    refine jx_ifeq (pc := 22) rfl (fun hc4 => ?_) (fun hc4 => ?_)
    · replace K := (if_pos hc4).symm.trans K
      refine jx_le (pl' := [some (.ref o), some (.int v1), some (.int v2), some (.int v3), some (.int v4)]) (jle_v (jle_v (jle_v (jle_v (jle_v jle_nil))))) ?_
      exact kPn_seenCount_l5_j28 hP ho hd K HL HE0
    · replace K := (if_neg hc4).symm.trans K
      refine jx_inc (pc := 25) (x := v3) (p2 := [some (.ref o), some (.int v1), some (.int v2), some (.int (v3 + 1)), some (.int v4)]) rfl rfl (jlt rfl) rfl ?_
      refine jx_le (pl' := [some (.ref o), some (.int v1), some (.int v2), some (.int (v3 + 1)), some (.int v4)]) (jle_v (jle_v (jle_v (jle_v (jle_v jle_nil))))) ?_
      exact kPn_seenCount_l5_j28 hP ho hd K HL HE0
  · replace K := (if_neg hc2).symm.trans K
    obtain rfl := Option.some.inj K
    refine jx_le (pl' := [none, none, none, some (.int v3), none]) (jle_n (jle_n (jle_n (jle_v (jle_n jle_nil))))) ?_
    exact HE0 _ rfl
theorem kPn_seenCount_l5_w {X : jX} {dd : Nat} {p d : Nat} {q : Nat → Nat} {Q : Option Value → jS → Prop} {o : Nat} {v1 : Int32} {v2 : Int32} {h : jH} (hP : jOK p d q) (ho : jcl 176 o = 10) (hd : 2 ≤ (dd + 1)) {s : Int32 × Int32} {x : Int32} (K : jlim (fPn_seenCount_l5 o v1 v2 h) s = some x) (HE : jEx X (dd + 1) jc_149 34 [none, none, none, some (.int x), none] [] (176, jRf p d q, h) Q) :
    jEx X (dd + 1) jc_149 5 [some (.ref o), some (.int v1), some (.int v2), some (.int s.1), some (.int s.2)] [] (176, jRf p d q, h) Q := by
  refine jlim_ok (G := fun s : Int32 × Int32 => jEx X (dd + 1) jc_149 5 [some (.ref o), some (.int v1), some (.int v2), some (.int s.1), some (.int s.2)] [] (176, jRf p d q, h) Q) (GX := fun x : Int32 => jEx X (dd + 1) jc_149 34 [none, none, none, some (.int x), none] [] (176, jRf p d q, h) Q) (fun s z hz HL HE => ?_) K HE
  exact kPn_seenCount_l5_b hP ho hd hz HL HE
/-- AndGuest$Plan.seenCount(II)I -/
noncomputable def fPn_seenCount (o : Nat) (v1 : Int32) (v2 : Int32) (h : jH) : Option Int32 :=
  (Option.bind (jlim (fPn_seenCount_l5  o v1 v2 h) (0, 0)) (fun (x5 : Int32) =>
  some (x5 : Int32)))
theorem kPn_seenCount {X : jX} {dd : Nat} {p d : Nat} {q : Nat → Nat} {Q : Option Value → jS → Prop} {o : Nat} {v1 : Int32} {v2 : Int32} {h : jH} (hP : jOK p d q) (ho : jcl 176 o = 10) (hd : 2 ≤ dd) {z : Int32} (K : fPn_seenCount o v1 v2 h = some z) (HQ : Q (some (.int z)) (176, jRf p d q, h)) :
    jCa X dd 149 [.ref o, .int v1, .int v2] (176, jRf p d q, h) Q := by
  obtain ⟨dd, rfl⟩ : ∃ d9, dd = d9 + 1 := ⟨dd - 1, by omega⟩
  unfold fPn_seenCount at K
  refine jCa_of (es := jc_149) (pl := [some (.ref o), some (.int v1), some (.int v2), none, none]) (M := jm_149) rfl rfl rfl rfl ?_
  refine jx_next (pc := 0) (pc' := 1) rfl rfl ?_
  refine jx_stin (pc := 1) (p2 := [some (.ref o), some (.int v1), some (.int v2), some (.int 0), none]) rfl (jlt rfl) rfl ?_
  refine jx_next (pc := 2) (pc' := 3) rfl rfl ?_
  refine jx_sti (pc := 3) (p2 := [some (.ref o), some (.int v1), some (.int v2), some (.int 0), some (.int 0)]) rfl (jlt rfl) rfl ?_
  refine jx_le (pl' := [some (.ref o), some (.int v1), some (.int v2), some (.int 0), some (.int 0)]) (jle_v (jle_v (jle_v (jle_v (jle_v jle_nil))))) ?_
  obtain ⟨x5, hz_x5, K⟩ := Option.bind_eq_some_iff.mp K
  refine kPn_seenCount_l5_w hP ho hd hz_x5 ?_
  refine jx_next (pc := 34) (pc' := 35) rfl rfl ?_
  obtain rfl := Option.some.inj K
  exact jx_iret (pc := 35) rfl HQ
