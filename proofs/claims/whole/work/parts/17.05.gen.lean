/-- AndGuest$Choices.safeSet()I -/
noncomputable def fCh_safeSet (R : jR) (o : Nat) (h : jH) : Int32 :=
  (h.1 o 2 : Int32)
theorem kCh_safeSet {X : jX} {d : Nat} {R : jR} {Q : Option Value → jS → Prop} {o : Nat} {h : jH} (hT : jTy R) (ho : jcl 176 o = 11) (hd : 0 ≤ d) {z : Int32} (K : fCh_safeSet R o h = z) (HQ : Q (some (.int z)) (176, R, h)) :
    jCa X d 131 [.ref o] (176, R, h) Q := by
  unfold fCh_safeSet at K
  refine jCa_of (es := jc_131) (pl := [some (.ref o)]) (M := jm_131) rfl rfl rfl rfl ?_
  refine jx_next (pc := 0) (pc' := 1) rfl rfl ?_
  refine jx_geti (pc := 1) rfl ho ?_
  obtain rfl := K
  exact jx_iret (pc := 4) rfl HQ
/-- AndGuest$Choices.safeOffence()I -/
noncomputable def fCh_safeOffence (R : jR) (o : Nat) (h : jH) : Int32 :=
  (h.1 o 3 : Int32)
theorem kCh_safeOffence {X : jX} {d : Nat} {R : jR} {Q : Option Value → jS → Prop} {o : Nat} {h : jH} (hT : jTy R) (ho : jcl 176 o = 11) (hd : 0 ≤ d) {z : Int32} (K : fCh_safeOffence R o h = z) (HQ : Q (some (.int z)) (176, R, h)) :
    jCa X d 132 [.ref o] (176, R, h) Q := by
  unfold fCh_safeOffence at K
  refine jCa_of (es := jc_132) (pl := [some (.ref o)]) (M := jm_132) rfl rfl rfl rfl ?_
  refine jx_next (pc := 0) (pc' := 1) rfl rfl ?_
  refine jx_geti (pc := 1) rfl ho ?_
  obtain rfl := K
  exact jx_iret (pc := 4) rfl HQ
/-- AndGuest$Choices.safeJoy()I -/
noncomputable def fCh_safeJoy (R : jR) (o : Nat) (h : jH) : Int32 :=
  (h.1 o 4 : Int32)
theorem kCh_safeJoy {X : jX} {d : Nat} {R : jR} {Q : Option Value → jS → Prop} {o : Nat} {h : jH} (hT : jTy R) (ho : jcl 176 o = 11) (hd : 0 ≤ d) {z : Int32} (K : fCh_safeJoy R o h = z) (HQ : Q (some (.int z)) (176, R, h)) :
    jCa X d 133 [.ref o] (176, R, h) Q := by
  unfold fCh_safeJoy at K
  refine jCa_of (es := jc_133) (pl := [some (.ref o)]) (M := jm_133) rfl rfl rfl rfl ?_
  refine jx_next (pc := 0) (pc' := 1) rfl rfl ?_
  refine jx_geti (pc := 1) rfl ho ?_
  obtain rfl := K
  exact jx_iret (pc := 4) rfl HQ
/-- AndGuest.safe(I)I -/
noncomputable def fA_safe (R : jR) (o : Nat) (v1 : Int32) (h : jH) : Option (Int32 × jH) :=
  (if (h.1 o 12) = 0 then
  some ((-1), h)
  else
  (if v1 < 0 then
  some ((-1), h)
  else
  (if 2 < v1 then
  some ((-1), h)
  else
  (Option.bind (fCh_findSafe R (R o 9) h) (fun (z4 : jH) =>
  (if v1 = 0 then
  some (fCh_safeSet R (R o 9) z4, z4)
  else
  (if v1 = 1 then
  some (fCh_safeOffence R (R o 9) z4, z4)
  else
  some (fCh_safeJoy R (R o 9) z4, z4))))))))
theorem kA_safe {X : jX} {d : Nat} {R : jR} {Q : Option Value → jS → Prop} {o : Nat} {v1 : Int32} {h : jH} (hT : jTy R) (ho : jcl 176 o = 1) (hd : 3 ≤ d) {z : Int32 × jH} (K : fA_safe R o v1 h = some z) (HQ : Q (some (.int z.1)) (176, R, z.2)) :
    jCa X d 127 [.ref o, .int v1] (176, R, h) Q := by
  obtain ⟨d, rfl⟩ : ∃ d9, d = d9 + 1 := ⟨d - 1, by omega⟩
  unfold fA_safe at K
  refine jCa_of (es := jc_127) (pl := [some (.ref o), some (.int v1)]) (M := jm_127) rfl rfl rfl rfl ?_
  refine jx_next (pc := 0) (pc' := 1) rfl rfl ?_
  refine jx_getz (pc := 1) rfl ho ?_
  refine jx_ifeq (pc := 4) rfl (fun hc1 => ?_) (fun hc1 => ?_)
  · replace K := (if_pos hc1).symm.trans K
    refine jx_next (pc := 16) (pc' := 17) rfl rfl ?_
    obtain rfl := Option.some.inj K
    exact jx_iret (pc := 17) rfl HQ
  · replace K := (if_neg hc1).symm.trans K
    refine jx_next (pc := 7) (pc' := 8) rfl rfl ?_
    refine jx_iflt (pc := 8) rfl (fun hc2 => ?_) (fun hc2 => ?_)
    · replace K := (if_pos hc2).symm.trans K
      refine jx_next (pc := 16) (pc' := 17) rfl rfl ?_
      obtain rfl := Option.some.inj K
      exact jx_iret (pc := 17) rfl HQ
    · replace K := (if_neg hc2).symm.trans K
      refine jx_next (pc := 11) (pc' := 12) rfl rfl ?_
      refine jx_next (pc := 12) (pc' := 13) rfl rfl ?_
      refine jx_icle (pc := 13) rfl (fun hc3 => ?_) (fun hc3 => ?_)
      · replace K := (if_pos hc3).symm.trans K
        refine jx_next (pc := 16) (pc' := 17) rfl rfl ?_
        obtain rfl := Option.some.inj K
        exact jx_iret (pc := 17) rfl HQ
      · replace K := (if_neg hc3).symm.trans K
        refine jx_next (pc := 18) (pc' := 19) rfl rfl ?_
        refine jx_getr (pc := 19) rfl ho ?_
        refine jx_callv (pc := 22) (o := (R o 9)) (rest := []) rfl ⟨by decide, by decide⟩ rfl (jtR hT ho (k := 9) (c := 11) rfl) (Nat.le_of_ble_eq_true rfl) ?_
        obtain ⟨z4, hz_z4, K⟩ := Option.bind_eq_some_iff.mp K
        refine kCh_findSafe hT (jtR hT ho (k := 9) (c := 11) rfl) (by omega) hz_z4 ?_
        refine jx_next (pc := 25) (pc' := 26) rfl rfl ?_
        refine jx_lsw (pc := 26) rfl ?_
        refine jx_sw1 (fun hc6 => ?_) (fun hc6 => ?_)
        · replace K := (if_pos hc6).symm.trans K
          refine jx_next (pc := 52) (pc' := 53) rfl rfl ?_
          refine jx_getr (pc := 53) rfl ho ?_
          refine jx_callv (pc := 56) (o := (R o 9)) (rest := []) rfl ⟨by decide, by decide⟩ rfl (jtR hT ho (k := 9) (c := 11) rfl) (Nat.le_of_ble_eq_true rfl) ?_
          refine kCh_safeSet hT (jtR hT ho (k := 9) (c := 11) rfl) (by omega) rfl ?_
          obtain rfl := Option.some.inj K
          exact jx_iret (pc := 59) rfl HQ
        · replace K := (if_neg hc6).symm.trans K
          refine jx_sw1 (fun hc5 => ?_) (fun hc5 => ?_)
          · replace K := (if_pos hc5).symm.trans K
            refine jx_next (pc := 60) (pc' := 61) rfl rfl ?_
            refine jx_getr (pc := 61) rfl ho ?_
            refine jx_callv (pc := 64) (o := (R o 9)) (rest := []) rfl ⟨by decide, by decide⟩ rfl (jtR hT ho (k := 9) (c := 11) rfl) (Nat.le_of_ble_eq_true rfl) ?_
            refine kCh_safeOffence hT (jtR hT ho (k := 9) (c := 11) rfl) (by omega) rfl ?_
            obtain rfl := Option.some.inj K
            exact jx_iret (pc := 67) rfl HQ
          · replace K := (if_neg hc5).symm.trans K
            refine jx_sw0 ?_
            refine jx_next (pc := 68) (pc' := 69) rfl rfl ?_
            refine jx_getr (pc := 69) rfl ho ?_
            refine jx_callv (pc := 72) (o := (R o 9)) (rest := []) rfl ⟨by decide, by decide⟩ rfl (jtR hT ho (k := 9) (c := 11) rfl) (Nat.le_of_ble_eq_true rfl) ?_
            refine kCh_safeJoy hT (jtR hT ho (k := 9) (c := 11) rfl) (by omega) rfl ?_
            obtain rfl := Option.some.inj K
            exact jx_iret (pc := 75) rfl HQ
/-- AndGuest$Choices.bestWorth()J -/
noncomputable def fCh_bestWorth (R : jR) (o : Nat) (h : jH) : Int64 :=
  (h.2 o 1 : Int64)
theorem kCh_bestWorth {X : jX} {d : Nat} {R : jR} {Q : Option Value → jS → Prop} {o : Nat} {h : jH} (hT : jTy R) (ho : jcl 176 o = 11) (hd : 0 ≤ d) {z : Int64} (K : fCh_bestWorth R o h = z) (HQ : Q (some (.long z)) (176, R, h)) :
    jCa X d 135 [.ref o] (176, R, h) Q := by
  unfold fCh_bestWorth at K
  refine jCa_of (es := jc_135) (pl := [some (.ref o)]) (M := jm_135) rfl rfl rfl rfl ?_
  refine jx_next (pc := 0) (pc' := 1) rfl rfl ?_
  refine jx_getl (pc := 1) rfl ho ?_
  obtain rfl := K
  exact jx_ret (pc := 4) rfl rfl HQ
/-- AndGuest.leave(I)I -/
noncomputable def fA_leave (R : jR) (o : Nat) (v1 : Int32) (h : jH) : Option (Int32 × jH) :=
  (if (fA_isGuest R o v1 h) = 0 then
  some ((-1), h)
  else
  (Option.bind (fSd_isAsked R (R o 5) v1 h) (fun (z2 : Int32) =>
  (if z2 = 0 then
  (Option.bind (fCh_findBest R (R o 9) 0 h) (fun (z4 : Int32 × jH) =>
  (Option.bind (fCh_findBest R (R o 9) (1 <<< (v1 &&& 31)) z4.2) (fun (z5 : Int32 × jH) =>
  some (((fCh_bestWorth R (R o 9) z4.2) - (fCh_bestWorth R (R o 9) z5.2)).toInt32, z5.2)))))
  else
  some ((-1), h)))))
theorem kA_leave {X : jX} {d : Nat} {R : jR} {Q : Option Value → jS → Prop} {o : Nat} {v1 : Int32} {h : jH} (hT : jTy R) (ho : jcl 176 o = 1) (hd : 7 ≤ d) {z : Int32 × jH} (K : fA_leave R o v1 h = some z) (HQ : Q (some (.int z.1)) (176, R, z.2)) :
    jCa X d 134 [.ref o, .int v1] (176, R, h) Q := by
  obtain ⟨d, rfl⟩ : ∃ d9, d = d9 + 1 := ⟨d - 1, by omega⟩
  unfold fA_leave at K
  refine jCa_of (es := jc_134) (pl := [some (.ref o), some (.int v1), none, none]) (M := jm_134) rfl rfl rfl rfl ?_
  refine jx_next (pc := 0) (pc' := 1) rfl rfl ?_
  refine jx_next (pc := 1) (pc' := 2) rfl rfl ?_
  refine jx_callv (pc := 2) (o := o) (rest := []) rfl ⟨by decide, by decide⟩ rfl ho (Nat.le_of_ble_eq_true rfl) ?_
  refine kA_isGuest hT ho (by omega) rfl ?_
  refine jx_ifeq (pc := 5) rfl (fun hc1 => ?_) (fun hc1 => ?_)
  · replace K := (if_pos hc1).symm.trans K
    refine jx_next (pc := 19) (pc' := 20) rfl rfl ?_
    obtain rfl := Option.some.inj K
    exact jx_iret (pc := 20) rfl HQ
  · replace K := (if_neg hc1).symm.trans K
    refine jx_next (pc := 8) (pc' := 9) rfl rfl ?_
    refine jx_getr (pc := 9) rfl ho ?_
    refine jx_next (pc := 12) (pc' := 13) rfl rfl ?_
    refine jx_callv (pc := 13) (o := (R o 5)) (rest := []) rfl ⟨by decide, by decide⟩ rfl (jtR hT ho (k := 5) (c := 6) rfl) (Nat.le_of_ble_eq_true rfl) ?_
    obtain ⟨z2, hz_z2, K⟩ := Option.bind_eq_some_iff.mp K
    refine kSd_isAsked hT (jtR hT ho (k := 5) (c := 6) rfl) (by omega) hz_z2 ?_
    refine jx_ifeq (pc := 16) rfl (fun hc3 => ?_) (fun hc3 => ?_)
    · replace K := (if_pos hc3).symm.trans K
      refine jx_next (pc := 21) (pc' := 22) rfl rfl ?_
      refine jx_getr (pc := 22) rfl ho ?_
      refine jx_next (pc := 25) (pc' := 26) rfl rfl ?_
      refine jx_callv (pc := 26) (o := (R o 9)) (rest := []) rfl ⟨by decide, by decide⟩ rfl (jtR hT ho (k := 9) (c := 11) rfl) (Nat.le_of_ble_eq_true rfl) ?_
      obtain ⟨z4, hz_z4, K⟩ := Option.bind_eq_some_iff.mp K
      refine kCh_findBest hT (jtR hT ho (k := 9) (c := 11) rfl) (by omega) hz_z4 ?_
      refine jx_next (pc := 29) (pc' := 30) rfl rfl ?_
      refine jx_next (pc := 30) (pc' := 31) rfl rfl ?_
      refine jx_getr (pc := 31) rfl ho ?_
      refine jx_callv (pc := 34) (o := (R o 9)) (rest := []) rfl ⟨by decide, by decide⟩ rfl (jtR hT ho (k := 9) (c := 11) rfl) (Nat.le_of_ble_eq_true rfl) ?_
      refine kCh_bestWorth hT (jtR hT ho (k := 9) (c := 11) rfl) (by omega) rfl ?_
      refine jx_stln (pc := 37) (p2 := [some (.ref o), some (.int v1), some (.long (fCh_bestWorth R (R o 9) z4.2)), none]) rfl (jlt rfl) rfl ?_
      refine jx_next (pc := 38) (pc' := 39) rfl rfl ?_
      refine jx_getr (pc := 39) rfl ho ?_
      refine jx_next (pc := 42) (pc' := 43) rfl rfl ?_
      refine jx_next (pc := 43) (pc' := 44) rfl rfl ?_
      refine jx_next (pc := 44) (pc' := 45) rfl rfl ?_
      refine jx_callv (pc := 45) (o := (R o 9)) (rest := []) rfl ⟨by decide, by decide⟩ rfl (jtR hT ho (k := 9) (c := 11) rfl) (Nat.le_of_ble_eq_true rfl) ?_
      obtain ⟨z5, hz_z5, K⟩ := Option.bind_eq_some_iff.mp K
      refine kCh_findBest hT (jtR hT ho (k := 9) (c := 11) rfl) (by omega) hz_z5 ?_
      refine jx_next (pc := 48) (pc' := 49) rfl rfl ?_
      refine jx_next (pc := 49) (pc' := 50) rfl rfl ?_
      refine jx_next (pc := 50) (pc' := 51) rfl rfl ?_
      refine jx_getr (pc := 51) rfl ho ?_
      refine jx_callv (pc := 54) (o := (R o 9)) (rest := [.long (fCh_bestWorth R (R o 9) z4.2)]) rfl ⟨by decide, by decide⟩ rfl (jtR hT ho (k := 9) (c := 11) rfl) (Nat.le_of_ble_eq_true rfl) ?_
      refine kCh_bestWorth hT (jtR hT ho (k := 9) (c := 11) rfl) (by omega) rfl ?_
      refine jx_next (pc := 57) (pc' := 58) rfl rfl ?_
      refine jx_next (pc := 58) (pc' := 59) rfl rfl ?_
      obtain rfl := Option.some.inj K
      exact jx_iret (pc := 59) rfl HQ
    · replace K := (if_neg hc3).symm.trans K
      refine jx_next (pc := 19) (pc' := 20) rfl rfl ?_
      obtain rfl := Option.some.inj K
      exact jx_iret (pc := 20) rfl HQ
noncomputable def fCh_findEnough_l4_j74 (R : jR) (o : Nat) (v1 : Int32) (v2 : Int32) (v3 : Int32) (h : jH) : Option ((Int32 × Int32) ⊕ (Int32)) :=
  some (.inl (v2, v3 + 1))
theorem kCh_findEnough_l4_j74 {X : jX} {d : Nat} {R : jR} {Q : Option Value → jS → Prop} {o : Nat} {v1 : Int32} {v2 : Int32} {v3 : Int32} {h : jH} (hT : jTy R) (ho : jcl 176 o = 11) (hd : 3 ≤ (d + 1)) {z : (Int32 × Int32) ⊕ (Int32)} (K : fCh_findEnough_l4_j74 R o v1 v2 v3 h = some z) (HL : ∀ s : Int32 × Int32, z = .inl s → jEx X (d + 1) jc_137 4 [some (.ref o), some (.int v1), some (.int s.1), some (.int s.2), none] [] (176, R, h) Q) (HE0 : ∀ x : Int32, z = .inr x → jEx X (d + 1) jc_137 80 [none, none, some (.int x), none, none] [] (176, R, h) Q) :
    jEx X (d + 1) jc_137 74 [some (.ref o), some (.int v1), some (.int v2), some (.int v3), none] [] (176, R, h) Q := by
  unfold fCh_findEnough_l4_j74 at K
  refine jx_inc (pc := 74) (x := v3) (p2 := [some (.ref o), some (.int v1), some (.int v2), some (.int (v3 + 1)), none]) rfl rfl (jlt rfl) rfl ?_
  refine jx_next (pc := 77) (pc' := 4) rfl rfl ?_
  obtain rfl := Option.some.inj K
  refine jx_le (pl' := [some (.ref o), some (.int v1), some (.int v2), some (.int (v3 + 1)), none]) (jle_v (jle_v (jle_v (jle_v (jle_n jle_nil))))) ?_
  exact HL _ rfl
noncomputable def fCh_findEnough_l4_j39 (R : jR) (o : Nat) (v1 : Int32) (v2 : Int32) (v3 : Int32) (s0 : Int32) (h : jH) : Option ((Int32 × Int32) ⊕ (Int32)) :=
  (if s0 = 0 then
  fCh_findEnough_l4_j74 R o v1 v2 v3 h
  else
  (Option.bind (fPy_canAsk R (R o 0) v3 h) (fun (z4 : Int32) =>
  (if z4 = 0 then
  fCh_findEnough_l4_j74 R o v1 v2 v3 h
  else
  (Option.bind (fPy_meanTenths R (R o 0) v3 h) (fun (z6 : Int32) =>
  (if z6 < (v1 * 10) then
  fCh_findEnough_l4_j74 R o v1 v2 v3 h
  else
  fCh_findEnough_l4_j74 R o v1 v3 v3 h)))))))
theorem kCh_findEnough_l4_j39 {X : jX} {d : Nat} {R : jR} {Q : Option Value → jS → Prop} {o : Nat} {v1 : Int32} {v2 : Int32} {v3 : Int32} {s0 : Int32} {h : jH} (hT : jTy R) (ho : jcl 176 o = 11) (hd : 3 ≤ (d + 1)) {z : (Int32 × Int32) ⊕ (Int32)} (K : fCh_findEnough_l4_j39 R o v1 v2 v3 s0 h = some z) (HL : ∀ s : Int32 × Int32, z = .inl s → jEx X (d + 1) jc_137 4 [some (.ref o), some (.int v1), some (.int s.1), some (.int s.2), none] [] (176, R, h) Q) (HE0 : ∀ x : Int32, z = .inr x → jEx X (d + 1) jc_137 80 [none, none, some (.int x), none, none] [] (176, R, h) Q) :
    jEx X (d + 1) jc_137 39 [some (.ref o), some (.int v1), some (.int v2), some (.int v3), none] [.int s0] (176, R, h) Q := by
  unfold fCh_findEnough_l4_j39 at K
  refine jx_sti (pc := 39) (p2 := [some (.ref o), some (.int v1), some (.int v2), some (.int v3), some (.int s0)]) rfl (jlt rfl) rfl ?_
  refine jx_next (pc := 41) (pc' := 43) rfl rfl ?_
  refine jx_ifeq (pc := 43) rfl (fun hc3 => ?_) (fun hc3 => ?_)
  · replace K := (if_pos hc3).symm.trans K
    refine jx_le (pl' := [some (.ref o), some (.int v1), some (.int v2), some (.int v3), none]) (jle_v (jle_v (jle_v (jle_v (jle_n jle_nil))))) ?_
    exact kCh_findEnough_l4_j74 hT ho hd K HL HE0
  · replace K := (if_neg hc3).symm.trans K
    refine jx_next (pc := 46) (pc' := 47) rfl rfl ?_
    refine jx_getr (pc := 47) rfl ho ?_
    refine jx_next (pc := 50) (pc' := 51) rfl rfl ?_
    refine jx_callv (pc := 51) (o := (R o 0)) (rest := []) rfl ⟨by decide, by decide⟩ rfl (jtR hT ho (k := 0) (c := 8) rfl) (Nat.le_of_ble_eq_true rfl) ?_
    obtain ⟨z4, hz_z4, K⟩ := Option.bind_eq_some_iff.mp K
    refine kPy_canAsk hT (jtR hT ho (k := 0) (c := 8) rfl) (by omega) hz_z4 ?_
    refine jx_ifeq (pc := 54) rfl (fun hc5 => ?_) (fun hc5 => ?_)
    · replace K := (if_pos hc5).symm.trans K
      refine jx_le (pl' := [some (.ref o), some (.int v1), some (.int v2), some (.int v3), none]) (jle_v (jle_v (jle_v (jle_v (jle_n jle_nil))))) ?_
      exact kCh_findEnough_l4_j74 hT ho hd K HL HE0
    · replace K := (if_neg hc5).symm.trans K
      refine jx_next (pc := 57) (pc' := 58) rfl rfl ?_
      refine jx_getr (pc := 58) rfl ho ?_
      refine jx_next (pc := 61) (pc' := 62) rfl rfl ?_
      refine jx_callv (pc := 62) (o := (R o 0)) (rest := []) rfl ⟨by decide, by decide⟩ rfl (jtR hT ho (k := 0) (c := 8) rfl) (Nat.le_of_ble_eq_true rfl) ?_
      obtain ⟨z6, hz_z6, K⟩ := Option.bind_eq_some_iff.mp K
      refine kPy_meanTenths hT (jtR hT ho (k := 0) (c := 8) rfl) (by omega) hz_z6 ?_
      refine jx_next (pc := 65) (pc' := 66) rfl rfl ?_
      refine jx_next (pc := 66) (pc' := 68) rfl rfl ?_
      refine jx_next (pc := 68) (pc' := 69) rfl rfl ?_
      refine jx_iclt (pc := 69) rfl (fun hc7 => ?_) (fun hc7 => ?_)
      · replace K := (if_pos hc7).symm.trans K
        refine jx_le (pl' := [some (.ref o), some (.int v1), some (.int v2), some (.int v3), none]) (jle_v (jle_v (jle_v (jle_v (jle_n jle_nil))))) ?_
        exact kCh_findEnough_l4_j74 hT ho hd K HL HE0
      · replace K := (if_neg hc7).symm.trans K
        refine jx_next (pc := 72) (pc' := 73) rfl rfl ?_
        refine jx_stin (pc := 73) (p2 := [some (.ref o), some (.int v1), some (.int v3), some (.int v3), some (.int s0)]) rfl (jlt rfl) rfl ?_
        refine jx_le (pl' := [some (.ref o), some (.int v1), some (.int v3), some (.int v3), none]) (jle_v (jle_v (jle_v (jle_v (jle_n jle_nil))))) ?_
        exact kCh_findEnough_l4_j74 hT ho hd K HL HE0
noncomputable def fCh_findEnough_l4_j34 (R : jR) (o : Nat) (v1 : Int32) (v2 : Int32) (v3 : Int32) (h : jH) : Option ((Int32 × Int32) ⊕ (Int32)) :=
  fCh_findEnough_l4_j39 R o v1 v2 v3 1 h
theorem kCh_findEnough_l4_j34 {X : jX} {d : Nat} {R : jR} {Q : Option Value → jS → Prop} {o : Nat} {v1 : Int32} {v2 : Int32} {v3 : Int32} {h : jH} (hT : jTy R) (ho : jcl 176 o = 11) (hd : 3 ≤ (d + 1)) {z : (Int32 × Int32) ⊕ (Int32)} (K : fCh_findEnough_l4_j34 R o v1 v2 v3 h = some z) (HL : ∀ s : Int32 × Int32, z = .inl s → jEx X (d + 1) jc_137 4 [some (.ref o), some (.int v1), some (.int s.1), some (.int s.2), none] [] (176, R, h) Q) (HE0 : ∀ x : Int32, z = .inr x → jEx X (d + 1) jc_137 80 [none, none, some (.int x), none, none] [] (176, R, h) Q) :
    jEx X (d + 1) jc_137 34 [some (.ref o), some (.int v1), some (.int v2), some (.int v3), none] [] (176, R, h) Q := by
  unfold fCh_findEnough_l4_j34 at K
  refine jx_next (pc := 34) (pc' := 35) rfl rfl ?_
  refine jx_next (pc := 35) (pc' := 39) rfl rfl ?_
  refine jx_le (pl' := [some (.ref o), some (.int v1), some (.int v2), some (.int v3), none]) (jle_v (jle_v (jle_v (jle_v (jle_n jle_nil))))) ?_
  exact kCh_findEnough_l4_j39 hT ho hd K HL HE0
noncomputable def fCh_findEnough_l4_b (R : jR) (o : Nat) (v1 : Int32) (v2 : Int32) (v3 : Int32) (h : jH) : Option ((Int32 × Int32) ⊕ (Int32)) :=
  (if v3 < (fPn_allSets R (fPy_plan R (R o 0) h) h) then
  (if v2 = (-1) then
  fCh_findEnough_l4_j34 R o v1 v2 v3 h
  else
  (if (fIn_bitCount v3) < (fIn_bitCount v2) then
  fCh_findEnough_l4_j34 R o v1 v2 v3 h
  else
  fCh_findEnough_l4_j39 R o v1 v2 v3 0 h))
  else
  some (.inr v2))
noncomputable def fCh_findEnough_l4 (R : jR) (o : Nat) (v1 : Int32) (h : jH) : (Int32 × Int32) → Option ((Int32 × Int32) ⊕ (Int32)) :=
  fun (s : Int32 × Int32) => fCh_findEnough_l4_b R o v1 s.1 s.2 h
theorem kCh_findEnough_l4_b {X : jX} {d : Nat} {R : jR} {Q : Option Value → jS → Prop} {o : Nat} {v1 : Int32} {v2 : Int32} {v3 : Int32} {h : jH} (hT : jTy R) (ho : jcl 176 o = 11) (hd : 3 ≤ (d + 1)) {z : (Int32 × Int32) ⊕ (Int32)} (K : fCh_findEnough_l4_b R o v1 v2 v3 h = some z) (HL : ∀ s : Int32 × Int32, z = .inl s → jEx X (d + 1) jc_137 4 [some (.ref o), some (.int v1), some (.int s.1), some (.int s.2), none] [] (176, R, h) Q) (HE0 : ∀ x : Int32, z = .inr x → jEx X (d + 1) jc_137 80 [none, none, some (.int x), none, none] [] (176, R, h) Q) :
    jEx X (d + 1) jc_137 4 [some (.ref o), some (.int v1), some (.int v2), some (.int v3), none] [] (176, R, h) Q := by
  unfold fCh_findEnough_l4_b at K
  refine jx_next (pc := 4) (pc' := 5) rfl rfl ?_
  refine jx_next (pc := 5) (pc' := 6) rfl rfl ?_
  refine jx_getr (pc := 6) rfl ho ?_
  refine jx_callv (pc := 9) (o := (R o 0)) (rest := [.int v3]) rfl ⟨by decide, by decide⟩ rfl (jtR hT ho (k := 0) (c := 8) rfl) (Nat.le_of_ble_eq_true rfl) ?_
  refine kPy_plan hT (jtR hT ho (k := 0) (c := 8) rfl) (by omega) rfl ?_
  refine jx_callv (pc := 12) (o := (fPy_plan R (R o 0) h)) (rest := [.int v3]) rfl ⟨by decide, by decide⟩ rfl (kPy_plan_c hT (jtR hT ho (k := 0) (c := 8) rfl)) (Nat.le_of_ble_eq_true rfl) ?_
  refine kPn_allSets hT (kPy_plan_c hT (jtR hT ho (k := 0) (c := 8) rfl)) (by omega) rfl ?_
  refine jx_icge (pc := 15) rfl (fun hc1 => ?_) (fun hc1 => ?_)
  · replace K := (if_pos hc1).symm.trans K
    refine jx_next (pc := 18) (pc' := 19) rfl rfl ?_
    refine jx_next (pc := 19) (pc' := 20) rfl rfl ?_
    refine jx_iceq (pc := 20) rfl (fun hc2 => ?_) (fun hc2 => ?_)
    · replace K := (if_pos hc2).symm.trans K
      refine jx_le (pl' := [some (.ref o), some (.int v1), some (.int v2), some (.int v3), none]) (jle_v (jle_v (jle_v (jle_v (jle_n jle_nil))))) ?_
      exact kCh_findEnough_l4_j34 hT ho hd K HL HE0
    · replace K := (if_neg hc2).symm.trans K
      refine jx_next (pc := 23) (pc' := 24) rfl rfl ?_
      refine jx_calls (pc := 24) rfl (Nat.le_of_ble_eq_true rfl) (Nat.le_of_ble_eq_true rfl) ?_
      refine kIn_bitCount  (by omega) rfl ?_
      refine jx_next (pc := 27) (pc' := 28) rfl rfl ?_
      refine jx_calls (pc := 28) rfl (Nat.le_of_ble_eq_true rfl) (Nat.le_of_ble_eq_true rfl) ?_
      refine kIn_bitCount  (by omega) rfl ?_
      refine jx_icge (pc := 31) rfl (fun hc8 => ?_) (fun hc8 => ?_)
      · replace K := (if_pos hc8).symm.trans K
        refine jx_le (pl' := [some (.ref o), some (.int v1), some (.int v2), some (.int v3), none]) (jle_v (jle_v (jle_v (jle_v (jle_n jle_nil))))) ?_
        exact kCh_findEnough_l4_j34 hT ho hd K HL HE0
      · replace K := (if_neg hc8).symm.trans K
        refine jx_next (pc := 38) (pc' := 39) rfl rfl ?_
        refine jx_le (pl' := [some (.ref o), some (.int v1), some (.int v2), some (.int v3), none]) (jle_v (jle_v (jle_v (jle_v (jle_n jle_nil))))) ?_
        exact kCh_findEnough_l4_j39 hT ho hd K HL HE0
  · replace K := (if_neg hc1).symm.trans K
    obtain rfl := Option.some.inj K
    refine jx_le (pl' := [none, none, some (.int v2), none, none]) (jle_n (jle_n (jle_v (jle_n (jle_n jle_nil))))) ?_
    exact HE0 _ rfl
theorem kCh_findEnough_l4_w {X : jX} {d : Nat} {R : jR} {Q : Option Value → jS → Prop} {o : Nat} {v1 : Int32} {h : jH} (hT : jTy R) (ho : jcl 176 o = 11) (hd : 3 ≤ (d + 1)) {s : Int32 × Int32} {x : Int32} (K : jlim (fCh_findEnough_l4 R o v1 h) s = some x) (HE : jEx X (d + 1) jc_137 80 [none, none, some (.int x), none, none] [] (176, R, h) Q) :
    jEx X (d + 1) jc_137 4 [some (.ref o), some (.int v1), some (.int s.1), some (.int s.2), none] [] (176, R, h) Q := by
  refine jlim_ok (G := fun s : Int32 × Int32 => jEx X (d + 1) jc_137 4 [some (.ref o), some (.int v1), some (.int s.1), some (.int s.2), none] [] (176, R, h) Q) (GX := fun x : Int32 => jEx X (d + 1) jc_137 80 [none, none, some (.int x), none, none] [] (176, R, h) Q) (fun s z hz HL HE => ?_) K HE
  exact kCh_findEnough_l4_b hT ho hd hz HL HE
/-- AndGuest$Choices.findEnough(I)I -/
noncomputable def fCh_findEnough (R : jR) (o : Nat) (v1 : Int32) (h : jH) : Option Int32 :=
  (Option.bind (jlim (fCh_findEnough_l4 R o v1 h) ((-1), 0)) (fun (x9 : Int32) =>
  some (x9 : Int32)))
theorem kCh_findEnough {X : jX} {d : Nat} {R : jR} {Q : Option Value → jS → Prop} {o : Nat} {v1 : Int32} {h : jH} (hT : jTy R) (ho : jcl 176 o = 11) (hd : 3 ≤ d) {z : Int32} (K : fCh_findEnough R o v1 h = some z) (HQ : Q (some (.int z)) (176, R, h)) :
    jCa X d 137 [.ref o, .int v1] (176, R, h) Q := by
  obtain ⟨d, rfl⟩ : ∃ d9, d = d9 + 1 := ⟨d - 1, by omega⟩
  unfold fCh_findEnough at K
  refine jCa_of (es := jc_137) (pl := [some (.ref o), some (.int v1), none, none, none]) (M := jm_137) rfl rfl rfl rfl ?_
  refine jx_next (pc := 0) (pc' := 1) rfl rfl ?_
  refine jx_stin (pc := 1) (p2 := [some (.ref o), some (.int v1), some (.int (-1)), none, none]) rfl (jlt rfl) rfl ?_
  refine jx_next (pc := 2) (pc' := 3) rfl rfl ?_
  refine jx_stin (pc := 3) (p2 := [some (.ref o), some (.int v1), some (.int (-1)), some (.int 0), none]) rfl (jlt rfl) rfl ?_
  refine jx_le (pl' := [some (.ref o), some (.int v1), some (.int (-1)), some (.int 0), none]) (jle_v (jle_v (jle_v (jle_v (jle_n jle_nil))))) ?_
  obtain ⟨x9, hz_x9, K⟩ := Option.bind_eq_some_iff.mp K
  refine kCh_findEnough_l4_w hT ho hd hz_x9 ?_
  refine jx_next (pc := 80) (pc' := 81) rfl rfl ?_
  obtain rfl := Option.some.inj K
  exact jx_iret (pc := 81) rfl HQ
/-- AndGuest.enough(I)I -/
noncomputable def fA_enough (R : jR) (o : Nat) (v1 : Int32) (h : jH) : Option Int32 :=
  (if (h.1 o 12) = 0 then
  some ((-1) : Int32)
  else
  (if v1 < 0 then
  some ((-1) : Int32)
  else
  (if 32 < v1 then
  some ((-1) : Int32)
  else
  (Option.bind (fCh_findEnough R (R o 9) v1 h) (fun (z4 : Int32) =>
  some (z4 : Int32))))))
theorem kA_enough {X : jX} {d : Nat} {R : jR} {Q : Option Value → jS → Prop} {o : Nat} {v1 : Int32} {h : jH} (hT : jTy R) (ho : jcl 176 o = 1) (hd : 4 ≤ d) {z : Int32} (K : fA_enough R o v1 h = some z) (HQ : Q (some (.int z)) (176, R, h)) :
    jCa X d 136 [.ref o, .int v1] (176, R, h) Q := by
  obtain ⟨d, rfl⟩ : ∃ d9, d = d9 + 1 := ⟨d - 1, by omega⟩
  unfold fA_enough at K
  refine jCa_of (es := jc_136) (pl := [some (.ref o), some (.int v1)]) (M := jm_136) rfl rfl rfl rfl ?_
  refine jx_next (pc := 0) (pc' := 1) rfl rfl ?_
  refine jx_getz (pc := 1) rfl ho ?_
  refine jx_ifeq (pc := 4) rfl (fun hc1 => ?_) (fun hc1 => ?_)
  · replace K := (if_pos hc1).symm.trans K
    refine jx_next (pc := 17) (pc' := 18) rfl rfl ?_
    obtain rfl := Option.some.inj K
    exact jx_iret (pc := 18) rfl HQ
  · replace K := (if_neg hc1).symm.trans K
    refine jx_next (pc := 7) (pc' := 8) rfl rfl ?_
    refine jx_iflt (pc := 8) rfl (fun hc2 => ?_) (fun hc2 => ?_)
    · replace K := (if_pos hc2).symm.trans K
      refine jx_next (pc := 17) (pc' := 18) rfl rfl ?_
      obtain rfl := Option.some.inj K
      exact jx_iret (pc := 18) rfl HQ
    · replace K := (if_neg hc2).symm.trans K
      refine jx_next (pc := 11) (pc' := 12) rfl rfl ?_
      refine jx_next (pc := 12) (pc' := 14) rfl rfl ?_
      refine jx_icle (pc := 14) rfl (fun hc3 => ?_) (fun hc3 => ?_)
      · replace K := (if_pos hc3).symm.trans K
        refine jx_next (pc := 17) (pc' := 18) rfl rfl ?_
        obtain rfl := Option.some.inj K
        exact jx_iret (pc := 18) rfl HQ
      · replace K := (if_neg hc3).symm.trans K
        refine jx_next (pc := 19) (pc' := 20) rfl rfl ?_
        refine jx_getr (pc := 20) rfl ho ?_
        refine jx_next (pc := 23) (pc' := 24) rfl rfl ?_
        refine jx_callv (pc := 24) (o := (R o 9)) (rest := []) rfl ⟨by decide, by decide⟩ rfl (jtR hT ho (k := 9) (c := 11) rfl) (Nat.le_of_ble_eq_true rfl) ?_
        obtain ⟨z4, hz_z4, K⟩ := Option.bind_eq_some_iff.mp K
        refine kCh_findEnough hT (jtR hT ho (k := 9) (c := 11) rfl) (by omega) hz_z4 ?_
        obtain rfl := Option.some.inj K
        exact jx_iret (pc := 27) rfl HQ
/-- AndGuest$Crowd.orderCost(III)J -/
noncomputable def fCr_orderCost (R : jR) (o : Nat) (v1 : Int32) (v2 : Int32) (v3 : Int32) (h : jH) : Option Int64 :=
  (Option.bind (fCr_beyond R o v1 h) (fun (z1 : Int64) =>
  some (((v1.toInt64 * v2.toInt64) * 100000000) + (v3.toInt64 * z1) : Int64)))
theorem kCr_orderCost {X : jX} {d : Nat} {R : jR} {Q : Option Value → jS → Prop} {o : Nat} {v1 : Int32} {v2 : Int32} {v3 : Int32} {h : jH} (hT : jTy R) (ho : jcl 176 o = 9) (hd : 1 ≤ d) {z : Int64} (K : fCr_orderCost R o v1 v2 v3 h = some z) (HQ : Q (some (.long z)) (176, R, h)) :
    jCa X d 139 [.ref o, .int v1, .int v2, .int v3] (176, R, h) Q := by
  obtain ⟨d, rfl⟩ : ∃ d9, d = d9 + 1 := ⟨d - 1, by omega⟩
  unfold fCr_orderCost at K
  refine jCa_of (es := jc_139) (pl := [some (.ref o), some (.int v1), some (.int v2), some (.int v3)]) (M := jm_139) rfl rfl rfl rfl ?_
  refine jx_next (pc := 0) (pc' := 1) rfl rfl ?_
  refine jx_next (pc := 1) (pc' := 2) rfl rfl ?_
  refine jx_next (pc := 2) (pc' := 3) rfl rfl ?_
  refine jx_next (pc := 3) (pc' := 4) rfl rfl ?_
  refine jx_next (pc := 4) (pc' := 5) rfl rfl ?_
  refine jx_next (pc := 5) (pc' := 8) rfl rfl ?_
  refine jx_next (pc := 8) (pc' := 9) rfl rfl ?_
  refine jx_next (pc := 9) (pc' := 10) rfl rfl ?_
  refine jx_next (pc := 10) (pc' := 11) rfl rfl ?_
  refine jx_next (pc := 11) (pc' := 12) rfl rfl ?_
  refine jx_next (pc := 12) (pc' := 13) rfl rfl ?_
  refine jx_callv (pc := 13) (o := o) (rest := [.long v3.toInt64, .long ((v1.toInt64 * v2.toInt64) * 100000000)]) rfl ⟨by decide, by decide⟩ rfl ho (Nat.le_of_ble_eq_true rfl) ?_
  obtain ⟨z1, hz_z1, K⟩ := Option.bind_eq_some_iff.mp K
  refine kCr_beyond hT ho (by omega) hz_z1 ?_
  refine jx_next (pc := 16) (pc' := 17) rfl rfl ?_
  refine jx_next (pc := 17) (pc' := 18) rfl rfl ?_
  obtain rfl := Option.some.inj K
  exact jx_ret (pc := 18) rfl rfl HQ
/-- AndGuest.order(I)I -/
noncomputable def fA_order (R : jR) (o : Nat) (v1 : Int32) (h : jH) : Option (Int32 × jH) :=
  (if (h.1 o 12) = 0 then
  some ((-1), h)
  else
  (if v1 < 0 then
  some ((-1), h)
  else
  (if 32 < v1 then
  some ((-1), h)
  else
  (Option.bind (fPy_crowdNow R (R o 8) h) (fun (z4 : Nat × jH) =>
  (Option.bind (fCr_orderCost R z4.1 v1 (z4.2.1 (fPy_plan R (R o 8) h) 5) (z4.2.1 (fPy_plan R (R o 8) h) 6) z4.2) (fun (z5 : Int64) =>
  some ((z5 / 1000000).toInt32, z4.2))))))))
theorem kA_order {X : jX} {d : Nat} {R : jR} {Q : Option Value → jS → Prop} {o : Nat} {v1 : Int32} {h : jH} (hT : jTy R) (ho : jcl 176 o = 1) (hd : 4 ≤ d) {z : Int32 × jH} (K : fA_order R o v1 h = some z) (HQ : Q (some (.int z.1)) (176, R, z.2)) :
    jCa X d 138 [.ref o, .int v1] (176, R, h) Q := by
  obtain ⟨d, rfl⟩ : ∃ d9, d = d9 + 1 := ⟨d - 1, by omega⟩
  unfold fA_order at K
  refine jCa_of (es := jc_138) (pl := [some (.ref o), some (.int v1), none]) (M := jm_138) rfl rfl rfl rfl ?_
  refine jx_next (pc := 0) (pc' := 1) rfl rfl ?_
  refine jx_getz (pc := 1) rfl ho ?_
  refine jx_ifeq (pc := 4) rfl (fun hc1 => ?_) (fun hc1 => ?_)
  · replace K := (if_pos hc1).symm.trans K
    refine jx_next (pc := 17) (pc' := 18) rfl rfl ?_
    obtain rfl := Option.some.inj K
    exact jx_iret (pc := 18) rfl HQ
  · replace K := (if_neg hc1).symm.trans K
    refine jx_next (pc := 7) (pc' := 8) rfl rfl ?_
    refine jx_iflt (pc := 8) rfl (fun hc2 => ?_) (fun hc2 => ?_)
    · replace K := (if_pos hc2).symm.trans K
      refine jx_next (pc := 17) (pc' := 18) rfl rfl ?_
      obtain rfl := Option.some.inj K
      exact jx_iret (pc := 18) rfl HQ
    · replace K := (if_neg hc2).symm.trans K
      refine jx_next (pc := 11) (pc' := 12) rfl rfl ?_
      refine jx_next (pc := 12) (pc' := 14) rfl rfl ?_
      refine jx_icle (pc := 14) rfl (fun hc3 => ?_) (fun hc3 => ?_)
      · replace K := (if_pos hc3).symm.trans K
        refine jx_next (pc := 17) (pc' := 18) rfl rfl ?_
        obtain rfl := Option.some.inj K
        exact jx_iret (pc := 18) rfl HQ
      · replace K := (if_neg hc3).symm.trans K
        refine jx_next (pc := 19) (pc' := 20) rfl rfl ?_
        refine jx_getr (pc := 20) rfl ho ?_
        refine jx_callv (pc := 23) (o := (R o 8)) (rest := []) rfl ⟨by decide, by decide⟩ rfl (jtR hT ho (k := 8) (c := 8) rfl) (Nat.le_of_ble_eq_true rfl) ?_
        refine kPy_plan hT (jtR hT ho (k := 8) (c := 8) rfl) (by omega) rfl ?_
        refine jx_stan (pc := 26) (p2 := [some (.ref o), some (.int v1), some (.ref (fPy_plan R (R o 8) h))]) rfl (jlt rfl) rfl ?_
        refine jx_next (pc := 27) (pc' := 28) rfl rfl ?_
        refine jx_getr (pc := 28) rfl ho ?_
        refine jx_callv (pc := 31) (o := (R o 8)) (rest := []) rfl ⟨by decide, by decide⟩ rfl (jtR hT ho (k := 8) (c := 8) rfl) (Nat.le_of_ble_eq_true rfl) ?_
        obtain ⟨z4, hz_z4, K⟩ := Option.bind_eq_some_iff.mp K
        refine kPy_crowdNow hT (jtR hT ho (k := 8) (c := 8) rfl) (by omega) hz_z4 ?_
        refine jx_next (pc := 34) (pc' := 35) rfl rfl ?_
        refine jx_next (pc := 35) (pc' := 36) rfl rfl ?_
        refine jx_geti (pc := 36) rfl (kPy_plan_c hT (jtR hT ho (k := 8) (c := 8) rfl)) ?_
        refine jx_next (pc := 39) (pc' := 40) rfl rfl ?_
        refine jx_geti (pc := 40) rfl (kPy_plan_c hT (jtR hT ho (k := 8) (c := 8) rfl)) ?_
        refine jx_callv (pc := 43) (o := z4.1) (rest := []) rfl ⟨by decide, by decide⟩ rfl (kPy_crowdNow_c hT (jtR hT ho (k := 8) (c := 8) rfl) hz_z4) (Nat.le_of_ble_eq_true rfl) ?_
        obtain ⟨z5, hz_z5, K⟩ := Option.bind_eq_some_iff.mp K
        refine kCr_orderCost hT (kPy_crowdNow_c hT (jtR hT ho (k := 8) (c := 8) rfl) hz_z4) (by omega) hz_z5 ?_
        refine jx_next (pc := 46) (pc' := 49) rfl rfl ?_
        refine jx_ldiv (pc := 49) rfl (by decide) ?_
        refine jx_next (pc := 50) (pc' := 51) rfl rfl ?_
        obtain rfl := Option.some.inj K
        exact jx_iret (pc := 51) rfl HQ
noncomputable def fCr_leastOrder_l14_j46 (R : jR) (o : Nat) (v1 : Int32) (v2 : Int32) (v3 : Int32) (v4 : Int64) (v6 : Int32) (h : jH) : Option ((Int32 × Int64 × Int32) ⊕ (Int32)) :=
  some (.inl (v3, v4, v6 + 1))
theorem kCr_leastOrder_l14_j46 {X : jX} {d : Nat} {R : jR} {Q : Option Value → jS → Prop} {o : Nat} {v1 : Int32} {v2 : Int32} {v3 : Int32} {v4 : Int64} {v6 : Int32} {h : jH} (hT : jTy R) (ho : jcl 176 o = 9) (hd : 2 ≤ (d + 1)) {z : (Int32 × Int64 × Int32) ⊕ (Int32)} (K : fCr_leastOrder_l14_j46 R o v1 v2 v3 v4 v6 h = some z) (HL : ∀ s : Int32 × Int64 × Int32, z = .inl s → jEx X (d + 1) jc_141 14 [some (.ref o), some (.int v1), some (.int v2), some (.int s.1), some (.long s.2.1), none, some (.int s.2.2), none, none] [] (176, R, h) Q) (HE0 : ∀ x : Int32, z = .inr x → jEx X (d + 1) jc_141 52 [none, none, none, some (.int x), none, none, none, none, none] [] (176, R, h) Q) :
    jEx X (d + 1) jc_141 46 [some (.ref o), some (.int v1), some (.int v2), some (.int v3), some (.long v4), none, some (.int v6), none, none] [] (176, R, h) Q := by
  unfold fCr_leastOrder_l14_j46 at K
  refine jx_inc (pc := 46) (x := v6) (p2 := [some (.ref o), some (.int v1), some (.int v2), some (.int v3), some (.long v4), none, some (.int (v6 + 1)), none, none]) rfl rfl (jlt rfl) rfl ?_
  refine jx_next (pc := 49) (pc' := 14) rfl rfl ?_
  obtain rfl := Option.some.inj K
  refine jx_le (pl' := [some (.ref o), some (.int v1), some (.int v2), some (.int v3), some (.long v4), none, some (.int (v6 + 1)), none, none]) (jle_v (jle_v (jle_v (jle_v (jle_v (jle_n (jle_v (jle_n (jle_n jle_nil))))))))) ?_
  exact HL _ rfl
noncomputable def fCr_leastOrder_l14_b (R : jR) (o : Nat) (v1 : Int32) (v2 : Int32) (v3 : Int32) (v4 : Int64) (v6 : Int32) (h : jH) : Option ((Int32 × Int64 × Int32) ⊕ (Int32)) :=
  (if 32 < v6 then
  some (.inr v3)
  else
  (Option.bind (fCr_orderCost R o v6 v1 v2 h) (fun (z3 : Int64) =>
  (if z3 < v4 then
  fCr_leastOrder_l14_j46 R o v1 v2 v6 z3 v6 h
  else
  fCr_leastOrder_l14_j46 R o v1 v2 v3 v4 v6 h))))
noncomputable def fCr_leastOrder_l14 (R : jR) (o : Nat) (v1 : Int32) (v2 : Int32) (h : jH) : (Int32 × Int64 × Int32) → Option ((Int32 × Int64 × Int32) ⊕ (Int32)) :=
  fun (s : Int32 × Int64 × Int32) => fCr_leastOrder_l14_b R o v1 v2 s.1 s.2.1 s.2.2 h
theorem kCr_leastOrder_l14_b {X : jX} {d : Nat} {R : jR} {Q : Option Value → jS → Prop} {o : Nat} {v1 : Int32} {v2 : Int32} {v3 : Int32} {v4 : Int64} {v6 : Int32} {h : jH} (hT : jTy R) (ho : jcl 176 o = 9) (hd : 2 ≤ (d + 1)) {z : (Int32 × Int64 × Int32) ⊕ (Int32)} (K : fCr_leastOrder_l14_b R o v1 v2 v3 v4 v6 h = some z) (HL : ∀ s : Int32 × Int64 × Int32, z = .inl s → jEx X (d + 1) jc_141 14 [some (.ref o), some (.int v1), some (.int v2), some (.int s.1), some (.long s.2.1), none, some (.int s.2.2), none, none] [] (176, R, h) Q) (HE0 : ∀ x : Int32, z = .inr x → jEx X (d + 1) jc_141 52 [none, none, none, some (.int x), none, none, none, none, none] [] (176, R, h) Q) :
    jEx X (d + 1) jc_141 14 [some (.ref o), some (.int v1), some (.int v2), some (.int v3), some (.long v4), none, some (.int v6), none, none] [] (176, R, h) Q := by
  unfold fCr_leastOrder_l14_b at K
  refine jx_next (pc := 14) (pc' := 16) rfl rfl ?_
  refine jx_next (pc := 16) (pc' := 18) rfl rfl ?_
  refine jx_icgt (pc := 18) rfl (fun hc2 => ?_) (fun hc2 => ?_)
  · replace K := (if_pos hc2).symm.trans K
    obtain rfl := Option.some.inj K
    refine jx_le (pl' := [none, none, none, some (.int v3), none, none, none, none, none]) (jle_n (jle_n (jle_n (jle_v (jle_n (jle_n (jle_n (jle_n (jle_n jle_nil))))))))) ?_
    exact HE0 _ rfl
  · replace K := (if_neg hc2).symm.trans K
    refine jx_next (pc := 21) (pc' := 22) rfl rfl ?_
    refine jx_next (pc := 22) (pc' := 24) rfl rfl ?_
    refine jx_next (pc := 24) (pc' := 25) rfl rfl ?_
    refine jx_next (pc := 25) (pc' := 26) rfl rfl ?_
    refine jx_callv (pc := 26) (o := o) (rest := []) rfl ⟨by decide, by decide⟩ rfl ho (Nat.le_of_ble_eq_true rfl) ?_
    obtain ⟨z3, hz_z3, K⟩ := Option.bind_eq_some_iff.mp K
    refine kCr_orderCost hT ho (by omega) hz_z3 ?_
    refine jx_stl (pc := 29) (p2 := [some (.ref o), some (.int v1), some (.int v2), some (.int v3), some (.long v4), none, some (.int v6), some (.long z3), none]) rfl (jlt rfl) rfl ?_
    refine jx_next (pc := 31) (pc' := 33) rfl rfl ?_
    refine jx_next (pc := 33) (pc' := 35) rfl rfl ?_
    refine jx_lcge (pc := 35) rfl rfl (fun hc4 => ?_) (fun hc4 => ?_)
    · replace K := (if_pos hc4).symm.trans K
      refine jx_next (pc := 39) (pc' := 41) rfl rfl ?_
      refine jx_stin (pc := 41) (p2 := [some (.ref o), some (.int v1), some (.int v2), some (.int v6), some (.long v4), none, some (.int v6), some (.long z3), none]) rfl (jlt rfl) rfl ?_
      refine jx_next (pc := 42) (pc' := 44) rfl rfl ?_
      refine jx_stl (pc := 44) (p2 := [some (.ref o), some (.int v1), some (.int v2), some (.int v6), some (.long z3), none, some (.int v6), some (.long z3), none]) rfl (jlt rfl) rfl ?_
      refine jx_le (pl' := [some (.ref o), some (.int v1), some (.int v2), some (.int v6), some (.long z3), none, some (.int v6), none, none]) (jle_v (jle_v (jle_v (jle_v (jle_v (jle_n (jle_v (jle_n (jle_n jle_nil))))))))) ?_
      exact kCr_leastOrder_l14_j46 hT ho hd K HL HE0
    · replace K := (if_neg hc4).symm.trans K
      refine jx_le (pl' := [some (.ref o), some (.int v1), some (.int v2), some (.int v3), some (.long v4), none, some (.int v6), none, none]) (jle_v (jle_v (jle_v (jle_v (jle_v (jle_n (jle_v (jle_n (jle_n jle_nil))))))))) ?_
      exact kCr_leastOrder_l14_j46 hT ho hd K HL HE0
theorem kCr_leastOrder_l14_w {X : jX} {d : Nat} {R : jR} {Q : Option Value → jS → Prop} {o : Nat} {v1 : Int32} {v2 : Int32} {h : jH} (hT : jTy R) (ho : jcl 176 o = 9) (hd : 2 ≤ (d + 1)) {s : Int32 × Int64 × Int32} {x : Int32} (K : jlim (fCr_leastOrder_l14 R o v1 v2 h) s = some x) (HE : jEx X (d + 1) jc_141 52 [none, none, none, some (.int x), none, none, none, none, none] [] (176, R, h) Q) :
    jEx X (d + 1) jc_141 14 [some (.ref o), some (.int v1), some (.int v2), some (.int s.1), some (.long s.2.1), none, some (.int s.2.2), none, none] [] (176, R, h) Q := by
  refine jlim_ok (G := fun s : Int32 × Int64 × Int32 => jEx X (d + 1) jc_141 14 [some (.ref o), some (.int v1), some (.int v2), some (.int s.1), some (.long s.2.1), none, some (.int s.2.2), none, none] [] (176, R, h) Q) (GX := fun x : Int32 => jEx X (d + 1) jc_141 52 [none, none, none, some (.int x), none, none, none, none, none] [] (176, R, h) Q) (fun s z hz HL HE => ?_) K HE
  exact kCr_leastOrder_l14_b hT ho hd hz HL HE
/-- AndGuest$Crowd.leastOrder(II)I -/
noncomputable def fCr_leastOrder (R : jR) (o : Nat) (v1 : Int32) (v2 : Int32) (h : jH) : Option Int32 :=
  (Option.bind (fCr_orderCost R o 0 v1 v2 h) (fun (z1 : Int64) =>
  (Option.bind (jlim (fCr_leastOrder_l14 R o v1 v2 h) (0, z1, 1)) (fun (x5 : Int32) =>
  some (x5 : Int32)))))
theorem kCr_leastOrder {X : jX} {d : Nat} {R : jR} {Q : Option Value → jS → Prop} {o : Nat} {v1 : Int32} {v2 : Int32} {h : jH} (hT : jTy R) (ho : jcl 176 o = 9) (hd : 2 ≤ d) {z : Int32} (K : fCr_leastOrder R o v1 v2 h = some z) (HQ : Q (some (.int z)) (176, R, h)) :
    jCa X d 141 [.ref o, .int v1, .int v2] (176, R, h) Q := by
  obtain ⟨d, rfl⟩ : ∃ d9, d = d9 + 1 := ⟨d - 1, by omega⟩
  unfold fCr_leastOrder at K
  refine jCa_of (es := jc_141) (pl := [some (.ref o), some (.int v1), some (.int v2), none, none, none, none, none, none]) (M := jm_141) rfl rfl rfl rfl ?_
  refine jx_next (pc := 0) (pc' := 1) rfl rfl ?_
  refine jx_stin (pc := 1) (p2 := [some (.ref o), some (.int v1), some (.int v2), some (.int 0), none, none, none, none, none]) rfl (jlt rfl) rfl ?_
  refine jx_next (pc := 2) (pc' := 3) rfl rfl ?_
  refine jx_next (pc := 3) (pc' := 4) rfl rfl ?_
  refine jx_next (pc := 4) (pc' := 5) rfl rfl ?_
  refine jx_next (pc := 5) (pc' := 6) rfl rfl ?_
  refine jx_callv (pc := 6) (o := o) (rest := []) rfl ⟨by decide, by decide⟩ rfl ho (Nat.le_of_ble_eq_true rfl) ?_
  obtain ⟨z1, hz_z1, K⟩ := Option.bind_eq_some_iff.mp K
  refine kCr_orderCost hT ho (by omega) hz_z1 ?_
  refine jx_stl (pc := 9) (p2 := [some (.ref o), some (.int v1), some (.int v2), some (.int 0), some (.long z1), none, none, none, none]) rfl (jlt rfl) rfl ?_
  refine jx_next (pc := 11) (pc' := 12) rfl rfl ?_
  refine jx_sti (pc := 12) (p2 := [some (.ref o), some (.int v1), some (.int v2), some (.int 0), some (.long z1), none, some (.int 1), none, none]) rfl (jlt rfl) rfl ?_
  refine jx_le (pl' := [some (.ref o), some (.int v1), some (.int v2), some (.int 0), some (.long z1), none, some (.int 1), none, none]) (jle_v (jle_v (jle_v (jle_v (jle_v (jle_n (jle_v (jle_n (jle_n jle_nil))))))))) ?_
  obtain ⟨x5, hz_x5, K⟩ := Option.bind_eq_some_iff.mp K
  refine kCr_leastOrder_l14_w hT ho hd hz_x5 ?_
  refine jx_next (pc := 52) (pc' := 53) rfl rfl ?_
  obtain rfl := Option.some.inj K
  exact jx_iret (pc := 53) rfl HQ
/-- AndGuest.plates(I)I -/
noncomputable def fA_plates (R : jR) (o : Nat) (v1 : Int32) (h : jH) : Option (Int32 × jH) :=
  (if (h.1 o 12) = 0 then
  some ((-1), h)
  else
  (if v1 < 0 then
  some ((-1), h)
  else
  (if 1 < v1 then
  some ((-1), h)
  else
  (Option.bind (fPy_crowdNow R (R o 8) h) (fun (z4 : Nat × jH) =>
  (Option.bind (fCr_leastOrder R z4.1 (z4.2.1 (fPy_plan R (R o 8) h) 5) (z4.2.1 (fPy_plan R (R o 8) h) 6) z4.2) (fun (z5 : Int32) =>
  (if v1 = 0 then
  some (z5, z4.2)
  else
  (Option.bind (fCr_orderCost R z4.1 z5 (z4.2.1 (fPy_plan R (R o 8) h) 5) (z4.2.1 (fPy_plan R (R o 8) h) 6) z4.2) (fun (z7 : Int64) =>
  some ((z7 / 1000000).toInt32, z4.2)))))))))))
theorem kA_plates {X : jX} {d : Nat} {R : jR} {Q : Option Value → jS → Prop} {o : Nat} {v1 : Int32} {h : jH} (hT : jTy R) (ho : jcl 176 o = 1) (hd : 4 ≤ d) {z : Int32 × jH} (K : fA_plates R o v1 h = some z) (HQ : Q (some (.int z.1)) (176, R, z.2)) :
    jCa X d 140 [.ref o, .int v1] (176, R, h) Q := by
  obtain ⟨d, rfl⟩ : ∃ d9, d = d9 + 1 := ⟨d - 1, by omega⟩
  unfold fA_plates at K
  refine jCa_of (es := jc_140) (pl := [some (.ref o), some (.int v1), none, none, none]) (M := jm_140) rfl rfl rfl rfl ?_
  refine jx_next (pc := 0) (pc' := 1) rfl rfl ?_
  refine jx_getz (pc := 1) rfl ho ?_
  refine jx_ifeq (pc := 4) rfl (fun hc1 => ?_) (fun hc1 => ?_)
  · replace K := (if_pos hc1).symm.trans K
    refine jx_next (pc := 16) (pc' := 17) rfl rfl ?_
    obtain rfl := Option.some.inj K
    exact jx_iret (pc := 17) rfl HQ
  · replace K := (if_neg hc1).symm.trans K
    refine jx_next (pc := 7) (pc' := 8) rfl rfl ?_
    refine jx_iflt (pc := 8) rfl (fun hc2 => ?_) (fun hc2 => ?_)
    · replace K := (if_pos hc2).symm.trans K
      refine jx_next (pc := 16) (pc' := 17) rfl rfl ?_
      obtain rfl := Option.some.inj K
      exact jx_iret (pc := 17) rfl HQ
    · replace K := (if_neg hc2).symm.trans K
      refine jx_next (pc := 11) (pc' := 12) rfl rfl ?_
      refine jx_next (pc := 12) (pc' := 13) rfl rfl ?_
      refine jx_icle (pc := 13) rfl (fun hc3 => ?_) (fun hc3 => ?_)
      · replace K := (if_pos hc3).symm.trans K
        refine jx_next (pc := 16) (pc' := 17) rfl rfl ?_
        obtain rfl := Option.some.inj K
        exact jx_iret (pc := 17) rfl HQ
      · replace K := (if_neg hc3).symm.trans K
        refine jx_next (pc := 18) (pc' := 19) rfl rfl ?_
        refine jx_getr (pc := 19) rfl ho ?_
        refine jx_callv (pc := 22) (o := (R o 8)) (rest := []) rfl ⟨by decide, by decide⟩ rfl (jtR hT ho (k := 8) (c := 8) rfl) (Nat.le_of_ble_eq_true rfl) ?_
        refine kPy_plan hT (jtR hT ho (k := 8) (c := 8) rfl) (by omega) rfl ?_
        refine jx_stan (pc := 25) (p2 := [some (.ref o), some (.int v1), some (.ref (fPy_plan R (R o 8) h)), none, none]) rfl (jlt rfl) rfl ?_
        refine jx_next (pc := 26) (pc' := 27) rfl rfl ?_
        refine jx_getr (pc := 27) rfl ho ?_
        refine jx_callv (pc := 30) (o := (R o 8)) (rest := []) rfl ⟨by decide, by decide⟩ rfl (jtR hT ho (k := 8) (c := 8) rfl) (Nat.le_of_ble_eq_true rfl) ?_
        obtain ⟨z4, hz_z4, K⟩ := Option.bind_eq_some_iff.mp K
        refine kPy_crowdNow hT (jtR hT ho (k := 8) (c := 8) rfl) (by omega) hz_z4 ?_
        refine jx_stan (pc := 33) (p2 := [some (.ref o), some (.int v1), some (.ref (fPy_plan R (R o 8) h)), some (.ref z4.1), none]) rfl (jlt rfl) rfl ?_
        refine jx_next (pc := 34) (pc' := 35) rfl rfl ?_
        refine jx_next (pc := 35) (pc' := 36) rfl rfl ?_
        refine jx_geti (pc := 36) rfl (kPy_plan_c hT (jtR hT ho (k := 8) (c := 8) rfl)) ?_
        refine jx_next (pc := 39) (pc' := 40) rfl rfl ?_
        refine jx_geti (pc := 40) rfl (kPy_plan_c hT (jtR hT ho (k := 8) (c := 8) rfl)) ?_
        refine jx_callv (pc := 43) (o := z4.1) (rest := []) rfl ⟨by decide, by decide⟩ rfl (kPy_crowdNow_c hT (jtR hT ho (k := 8) (c := 8) rfl) hz_z4) (Nat.le_of_ble_eq_true rfl) ?_
        obtain ⟨z5, hz_z5, K⟩ := Option.bind_eq_some_iff.mp K
        refine kCr_leastOrder hT (kPy_crowdNow_c hT (jtR hT ho (k := 8) (c := 8) rfl) hz_z4) (by omega) hz_z5 ?_
        refine jx_sti (pc := 46) (p2 := [some (.ref o), some (.int v1), some (.ref (fPy_plan R (R o 8) h)), some (.ref z4.1), some (.int z5)]) rfl (jlt rfl) rfl ?_
        refine jx_next (pc := 48) (pc' := 49) rfl rfl ?_
        refine jx_ifne (pc := 49) rfl (fun hc6 => ?_) (fun hc6 => ?_)
        · replace K := (if_pos hc6).symm.trans K
          refine jx_next (pc := 52) (pc' := 54) rfl rfl ?_
          refine jx_next (pc := 54) (pc' := 76) rfl rfl ?_
          obtain rfl := Option.some.inj K
          exact jx_iret (pc := 76) rfl HQ
        · replace K := (if_neg hc6).symm.trans K
          refine jx_next (pc := 57) (pc' := 58) rfl rfl ?_
          refine jx_next (pc := 58) (pc' := 60) rfl rfl ?_
          refine jx_next (pc := 60) (pc' := 61) rfl rfl ?_
          refine jx_geti (pc := 61) rfl (kPy_plan_c hT (jtR hT ho (k := 8) (c := 8) rfl)) ?_
          refine jx_next (pc := 64) (pc' := 65) rfl rfl ?_
          refine jx_geti (pc := 65) rfl (kPy_plan_c hT (jtR hT ho (k := 8) (c := 8) rfl)) ?_
          refine jx_callv (pc := 68) (o := z4.1) (rest := []) rfl ⟨by decide, by decide⟩ rfl (kPy_crowdNow_c hT (jtR hT ho (k := 8) (c := 8) rfl) hz_z4) (Nat.le_of_ble_eq_true rfl) ?_
          obtain ⟨z7, hz_z7, K⟩ := Option.bind_eq_some_iff.mp K
          refine kCr_orderCost hT (kPy_crowdNow_c hT (jtR hT ho (k := 8) (c := 8) rfl) hz_z4) (by omega) hz_z7 ?_
          refine jx_next (pc := 71) (pc' := 74) rfl rfl ?_
          refine jx_ldiv (pc := 74) rfl (by decide) ?_
          refine jx_next (pc := 75) (pc' := 76) rfl rfl ?_
          obtain rfl := Option.some.inj K
          exact jx_iret (pc := 76) rfl HQ
/-- AndGuest$Party.standing()LAndGuest$Standing; -/
noncomputable def fPy_standing (R : jR) (o : Nat) (h : jH) : Nat :=
  (R o 0 : Nat)
theorem kPy_standing {X : jX} {d : Nat} {R : jR} {Q : Option Value → jS → Prop} {o : Nat} {h : jH} (hT : jTy R) (ho : jcl 176 o = 8) (hd : 0 ≤ d) {z : Nat} (K : fPy_standing R o h = z) (HQ : Q (some (.ref z)) (176, R, h)) :
    jCa X d 144 [.ref o] (176, R, h) Q := by
  unfold fPy_standing at K
  refine jCa_of (es := jc_144) (pl := [some (.ref o)]) (M := jm_144) rfl rfl rfl rfl ?_
  refine jx_next (pc := 0) (pc' := 1) rfl rfl ?_
  refine jx_getr (pc := 1) rfl ho ?_
  obtain rfl := K
  exact jx_ret (pc := 4) rfl rfl HQ
theorem kPy_standing_c {R : jR} {o : Nat} {h : jH} (hT : jTy R) (ho : jcl 176 o = 8) : jcl 176 (fPy_standing R o h) = 6 := jtR hT ho (k := 0) (c := 6) rfl
/-- AndGuest$Choices.leastCost(II)J -/
noncomputable def fCh_leastCost (R : jR) (o : Nat) (v1 : Int32) (v2 : Int32) (h : jH) : Option (Int64 × jH) :=
  (Option.bind (fPy_crowdWhen R (R o 0) v1 v2 h) (fun (z1 : Nat × jH) =>
  (Option.bind (fCr_leastOrder R z1.1 (z1.2.1 (fPy_plan R (R o 0) h) 5) (z1.2.1 (fPy_plan R (R o 0) h) 6) z1.2) (fun (z2 : Int32) =>
  (Option.bind (fCr_orderCost R z1.1 z2 (z1.2.1 (fPy_plan R (R o 0) h) 5) (z1.2.1 (fPy_plan R (R o 0) h) 6) z1.2) (fun (z3 : Int64) =>
  some (z3, z1.2)))))))
theorem kCh_leastCost {X : jX} {d : Nat} {R : jR} {Q : Option Value → jS → Prop} {o : Nat} {v1 : Int32} {v2 : Int32} {h : jH} (hT : jTy R) (ho : jcl 176 o = 11) (hd : 3 ≤ d) {z : Int64 × jH} (K : fCh_leastCost R o v1 v2 h = some z) (HQ : Q (some (.long z.1)) (176, R, z.2)) :
    jCa X d 145 [.ref o, .int v1, .int v2] (176, R, h) Q := by
  obtain ⟨d, rfl⟩ : ∃ d9, d = d9 + 1 := ⟨d - 1, by omega⟩
  unfold fCh_leastCost at K
  refine jCa_of (es := jc_145) (pl := [some (.ref o), some (.int v1), some (.int v2), none, none]) (M := jm_145) rfl rfl rfl rfl ?_
  refine jx_next (pc := 0) (pc' := 1) rfl rfl ?_
  refine jx_getr (pc := 1) rfl ho ?_
  refine jx_callv (pc := 4) (o := (R o 0)) (rest := []) rfl ⟨by decide, by decide⟩ rfl (jtR hT ho (k := 0) (c := 8) rfl) (Nat.le_of_ble_eq_true rfl) ?_
  refine kPy_plan hT (jtR hT ho (k := 0) (c := 8) rfl) (by omega) rfl ?_
  refine jx_stan (pc := 7) (p2 := [some (.ref o), some (.int v1), some (.int v2), some (.ref (fPy_plan R (R o 0) h)), none]) rfl (jlt rfl) rfl ?_
  refine jx_next (pc := 8) (pc' := 9) rfl rfl ?_
  refine jx_getr (pc := 9) rfl ho ?_
  refine jx_next (pc := 12) (pc' := 13) rfl rfl ?_
  refine jx_next (pc := 13) (pc' := 14) rfl rfl ?_
  refine jx_callv (pc := 14) (o := (R o 0)) (rest := []) rfl ⟨by decide, by decide⟩ rfl (jtR hT ho (k := 0) (c := 8) rfl) (Nat.le_of_ble_eq_true rfl) ?_
  obtain ⟨z1, hz_z1, K⟩ := Option.bind_eq_some_iff.mp K
  refine kPy_crowdWhen hT (jtR hT ho (k := 0) (c := 8) rfl) (by omega) hz_z1 ?_
  refine jx_sta (pc := 17) (p2 := [some (.ref o), some (.int v1), some (.int v2), some (.ref (fPy_plan R (R o 0) h)), some (.ref z1.1)]) rfl (jlt rfl) rfl ?_
  refine jx_next (pc := 19) (pc' := 21) rfl rfl ?_
  refine jx_next (pc := 21) (pc' := 23) rfl rfl ?_
  refine jx_next (pc := 23) (pc' := 24) rfl rfl ?_
  refine jx_geti (pc := 24) rfl (kPy_plan_c hT (jtR hT ho (k := 0) (c := 8) rfl)) ?_
  refine jx_next (pc := 27) (pc' := 28) rfl rfl ?_
  refine jx_geti (pc := 28) rfl (kPy_plan_c hT (jtR hT ho (k := 0) (c := 8) rfl)) ?_
  refine jx_callv (pc := 31) (o := z1.1) (rest := [.ref z1.1]) rfl ⟨by decide, by decide⟩ rfl (kPy_crowdWhen_c hT (jtR hT ho (k := 0) (c := 8) rfl) hz_z1) (Nat.le_of_ble_eq_true rfl) ?_
  obtain ⟨z2, hz_z2, K⟩ := Option.bind_eq_some_iff.mp K
  refine kCr_leastOrder hT (kPy_crowdWhen_c hT (jtR hT ho (k := 0) (c := 8) rfl) hz_z1) (by omega) hz_z2 ?_
  refine jx_next (pc := 34) (pc' := 35) rfl rfl ?_
  refine jx_geti (pc := 35) rfl (kPy_plan_c hT (jtR hT ho (k := 0) (c := 8) rfl)) ?_
  refine jx_next (pc := 38) (pc' := 39) rfl rfl ?_
  refine jx_geti (pc := 39) rfl (kPy_plan_c hT (jtR hT ho (k := 0) (c := 8) rfl)) ?_
  refine jx_callv (pc := 42) (o := z1.1) (rest := []) rfl ⟨by decide, by decide⟩ rfl (kPy_crowdWhen_c hT (jtR hT ho (k := 0) (c := 8) rfl) hz_z1) (Nat.le_of_ble_eq_true rfl) ?_
  obtain ⟨z3, hz_z3, K⟩ := Option.bind_eq_some_iff.mp K
  refine kCr_orderCost hT (kPy_crowdWhen_c hT (jtR hT ho (k := 0) (c := 8) rfl) hz_z1) (by omega) hz_z3 ?_
  obtain rfl := Option.some.inj K
  exact jx_ret (pc := 45) rfl rfl HQ
noncomputable def fCh_findRing_l12_j112 (R : jR) (o : Nat) (v1 : Nat) (v2 : Int32) (v3 : Int32) (h : jH) : Option ((Int32 × Int32 × jH) ⊕ (Int32 × jH)) :=
  some (.inl (v2, v3 + 1, h))
theorem kCh_findRing_l12_j112 {X : jX} {d : Nat} {R : jR} {Q : Option Value → jS → Prop} {o : Nat} {v1 : Nat} {v2 : Int32} {v3 : Int32} {h : jH} (hT : jTy R) (ho : jcl 176 o = 11) (hv1 : jcl 176 v1 = 6) (hd : 4 ≤ (d + 1)) {z : (Int32 × Int32 × jH) ⊕ (Int32 × jH)} (K : fCh_findRing_l12_j112 R o v1 v2 v3 h = some z) (HL : ∀ s : Int32 × Int32 × jH, z = .inl s → jEx X (d + 1) jc_143 12 [some (.ref o), some (.ref v1), some (.int s.1), some (.int s.2.1), none, none, none] [] (176, R, s.2.2) Q) (HE0 : ∀ x : Int32 × jH, z = .inr x → jEx X (d + 1) jc_143 118 [none, none, some (.int x.1), none, none, none, none] [] (176, R, x.2) Q) :
    jEx X (d + 1) jc_143 112 [some (.ref o), some (.ref v1), some (.int v2), some (.int v3), none, none, none] [] (176, R, h) Q := by
  unfold fCh_findRing_l12_j112 at K
  refine jx_inc (pc := 112) (x := v3) (p2 := [some (.ref o), some (.ref v1), some (.int v2), some (.int (v3 + 1)), none, none, none]) rfl rfl (jlt rfl) rfl ?_
  refine jx_next (pc := 115) (pc' := 12) rfl rfl ?_
  obtain rfl := Option.some.inj K
  refine jx_le (pl' := [some (.ref o), some (.ref v1), some (.int v2), some (.int (v3 + 1)), none, none, none]) (jle_v (jle_v (jle_v (jle_v (jle_n (jle_n (jle_n jle_nil))))))) ?_
  exact HL _ rfl
noncomputable def fCh_findRing_l12_j104 (R : jR) (o : Nat) (v1 : Nat) (v3 : Int32) (v5 : Int64) (h : jH) : Option ((Int32 × Int32 × jH) ⊕ (Int32 × jH)) :=
  fCh_findRing_l12_j112 R o v1 v3 v3 (jhL h o 5 v5)
theorem kCh_findRing_l12_j104 {X : jX} {d : Nat} {R : jR} {Q : Option Value → jS → Prop} {o : Nat} {v1 : Nat} {v3 : Int32} {v5 : Int64} {h : jH} (hT : jTy R) (ho : jcl 176 o = 11) (hv1 : jcl 176 v1 = 6) (hd : 4 ≤ (d + 1)) {z : (Int32 × Int32 × jH) ⊕ (Int32 × jH)} (K : fCh_findRing_l12_j104 R o v1 v3 v5 h = some z) (HL : ∀ s : Int32 × Int32 × jH, z = .inl s → jEx X (d + 1) jc_143 12 [some (.ref o), some (.ref v1), some (.int s.1), some (.int s.2.1), none, none, none] [] (176, R, s.2.2) Q) (HE0 : ∀ x : Int32 × jH, z = .inr x → jEx X (d + 1) jc_143 118 [none, none, some (.int x.1), none, none, none, none] [] (176, R, x.2) Q) :
    jEx X (d + 1) jc_143 104 [some (.ref o), some (.ref v1), none, some (.int v3), none, some (.long v5), none] [] (176, R, h) Q := by
  unfold fCh_findRing_l12_j104 at K
  refine jx_next (pc := 104) (pc' := 105) rfl rfl ?_
  refine jx_stin (pc := 105) (p2 := [some (.ref o), some (.ref v1), some (.int v3), some (.int v3), none, some (.long v5), none]) rfl (jlt rfl) rfl ?_
  refine jx_next (pc := 106) (pc' := 107) rfl rfl ?_
  refine jx_next (pc := 107) (pc' := 109) rfl rfl ?_
  refine jx_putl (pc := 109) rfl ho ?_
  refine jx_le (pl' := [some (.ref o), some (.ref v1), some (.int v3), some (.int v3), none, none, none]) (jle_v (jle_v (jle_v (jle_v (jle_n (jle_n (jle_n jle_nil))))))) ?_
  exact kCh_findRing_l12_j112 hT ho hv1 hd K HL HE0
noncomputable def fCh_findRing_l12_j52 (R : jR) (o : Nat) (v1 : Nat) (v2 : Int32) (v3 : Int32) (h : jH) : Option ((Int32 × Int32 × jH) ⊕ (Int32 × jH)) :=
  (Option.bind (fPy_comesNow R (R o 0) v3 h) (fun (z5 : Int32) =>
  (Option.bind (fCh_leastCost R o v3 10 h) (fun (z6 : Int64 × jH) =>
  (Option.bind (fCh_leastCost R o v3 0 z6.2) (fun (z7 : Int64 × jH) =>
  (if v2 = (-1) then
  fCh_findRing_l12_j104 R o v1 v3 ((z5.toInt64 * z6.1) + (((10 - z5).toInt64) * z7.1)) z7.2
  else
  (if ((z5.toInt64 * z6.1) + (((10 - z5).toInt64) * z7.1)) < (z7.2.2 o 5) then
  fCh_findRing_l12_j104 R o v1 v3 ((z5.toInt64 * z6.1) + (((10 - z5).toInt64) * z7.1)) z7.2
  else
  fCh_findRing_l12_j112 R o v1 v2 v3 z7.2))))))))
theorem kCh_findRing_l12_j52 {X : jX} {d : Nat} {R : jR} {Q : Option Value → jS → Prop} {o : Nat} {v1 : Nat} {v2 : Int32} {v3 : Int32} {h : jH} (hT : jTy R) (ho : jcl 176 o = 11) (hv1 : jcl 176 v1 = 6) (hd : 4 ≤ (d + 1)) {z : (Int32 × Int32 × jH) ⊕ (Int32 × jH)} (K : fCh_findRing_l12_j52 R o v1 v2 v3 h = some z) (HL : ∀ s : Int32 × Int32 × jH, z = .inl s → jEx X (d + 1) jc_143 12 [some (.ref o), some (.ref v1), some (.int s.1), some (.int s.2.1), none, none, none] [] (176, R, s.2.2) Q) (HE0 : ∀ x : Int32 × jH, z = .inr x → jEx X (d + 1) jc_143 118 [none, none, some (.int x.1), none, none, none, none] [] (176, R, x.2) Q) :
    jEx X (d + 1) jc_143 52 [some (.ref o), some (.ref v1), some (.int v2), some (.int v3), none, none, none] [] (176, R, h) Q := by
  unfold fCh_findRing_l12_j52 at K
  refine jx_next (pc := 52) (pc' := 53) rfl rfl ?_
  refine jx_getr (pc := 53) rfl ho ?_
  refine jx_next (pc := 56) (pc' := 57) rfl rfl ?_
  refine jx_callv (pc := 57) (o := (R o 0)) (rest := []) rfl ⟨by decide, by decide⟩ rfl (jtR hT ho (k := 0) (c := 8) rfl) (Nat.le_of_ble_eq_true rfl) ?_
  obtain ⟨z5, hz_z5, K⟩ := Option.bind_eq_some_iff.mp K
  refine kPy_comesNow hT (jtR hT ho (k := 0) (c := 8) rfl) (by omega) hz_z5 ?_
  refine jx_sti (pc := 60) (p2 := [some (.ref o), some (.ref v1), some (.int v2), some (.int v3), some (.int z5), none, none]) rfl (jlt rfl) rfl ?_
  refine jx_next (pc := 62) (pc' := 64) rfl rfl ?_
  refine jx_next (pc := 64) (pc' := 65) rfl rfl ?_
  refine jx_next (pc := 65) (pc' := 66) rfl rfl ?_
  refine jx_next (pc := 66) (pc' := 67) rfl rfl ?_
  refine jx_next (pc := 67) (pc' := 69) rfl rfl ?_
  refine jx_callv (pc := 69) (o := o) (rest := [.long z5.toInt64]) rfl ⟨by decide, by decide⟩ rfl ho (Nat.le_of_ble_eq_true rfl) ?_
  obtain ⟨z6, hz_z6, K⟩ := Option.bind_eq_some_iff.mp K
  refine kCh_leastCost hT ho (by omega) hz_z6 ?_
  refine jx_next (pc := 72) (pc' := 73) rfl rfl ?_
  refine jx_next (pc := 73) (pc' := 75) rfl rfl ?_
  refine jx_next (pc := 75) (pc' := 77) rfl rfl ?_
  refine jx_next (pc := 77) (pc' := 78) rfl rfl ?_
  refine jx_next (pc := 78) (pc' := 79) rfl rfl ?_
  refine jx_next (pc := 79) (pc' := 80) rfl rfl ?_
  refine jx_next (pc := 80) (pc' := 81) rfl rfl ?_
  refine jx_next (pc := 81) (pc' := 82) rfl rfl ?_
  refine jx_callv (pc := 82) (o := o) (rest := [.long ((10 - z5).toInt64), .long (z5.toInt64 * z6.1)]) rfl ⟨by decide, by decide⟩ rfl ho (Nat.le_of_ble_eq_true rfl) ?_
  obtain ⟨z7, hz_z7, K⟩ := Option.bind_eq_some_iff.mp K
  refine kCh_leastCost hT ho (by omega) hz_z7 ?_
  refine jx_next (pc := 85) (pc' := 86) rfl rfl ?_
  refine jx_next (pc := 86) (pc' := 87) rfl rfl ?_
  refine jx_stl (pc := 87) (p2 := [some (.ref o), some (.ref v1), some (.int v2), some (.int v3), some (.int z5), some (.long ((z5.toInt64 * z6.1) + (((10 - z5).toInt64) * z7.1))), none]) rfl (jlt rfl) rfl ?_
  refine jx_next (pc := 89) (pc' := 90) rfl rfl ?_
  refine jx_next (pc := 90) (pc' := 91) rfl rfl ?_
  refine jx_iceq (pc := 91) rfl (fun hc8 => ?_) (fun hc8 => ?_)
  · replace K := (if_pos hc8).symm.trans K
    refine jx_le (pl' := [some (.ref o), some (.ref v1), none, some (.int v3), none, some (.long ((z5.toInt64 * z6.1) + (((10 - z5).toInt64) * z7.1))), none]) (jle_v (jle_v (jle_n (jle_v (jle_n (jle_v (jle_n jle_nil))))))) ?_
    exact kCh_findRing_l12_j104 hT ho hv1 hd K HL HE0
  · replace K := (if_neg hc8).symm.trans K
    refine jx_next (pc := 94) (pc' := 96) rfl rfl ?_
    refine jx_next (pc := 96) (pc' := 97) rfl rfl ?_
    refine jx_getl (pc := 97) rfl ho ?_
    refine jx_lcge (pc := 100) rfl rfl (fun hc9 => ?_) (fun hc9 => ?_)
    · replace K := (if_pos hc9).symm.trans K
      refine jx_le (pl' := [some (.ref o), some (.ref v1), none, some (.int v3), none, some (.long ((z5.toInt64 * z6.1) + (((10 - z5).toInt64) * z7.1))), none]) (jle_v (jle_v (jle_n (jle_v (jle_n (jle_v (jle_n jle_nil))))))) ?_
      exact kCh_findRing_l12_j104 hT ho hv1 hd K HL HE0
    · replace K := (if_neg hc9).symm.trans K
      refine jx_le (pl' := [some (.ref o), some (.ref v1), some (.int v2), some (.int v3), none, none, none]) (jle_v (jle_v (jle_v (jle_v (jle_n (jle_n (jle_n jle_nil))))))) ?_
      exact kCh_findRing_l12_j112 hT ho hv1 hd K HL HE0
noncomputable def fCh_findRing_l12_b (R : jR) (o : Nat) (v1 : Nat) (v2 : Int32) (v3 : Int32) (h : jH) : Option ((Int32 × Int32 × jH) ⊕ (Int32 × jH)) :=
  (if v3 < (h.1 (fPy_plan R (R o 0) h) 0) then
  (if v3 < 8 then
  (if jin v3 (jsh (R v1 2)).2 then
  (if (h.1 (R v1 2) v3.toNatClampNeg) = 1 then
  fCh_findRing_l12_j52 R o v1 v2 v3 h
  else
  (if jin v3 (jsh (R v1 2)).2 then
  (if (h.1 (R v1 2) v3.toNatClampNeg) = 4 then
  fCh_findRing_l12_j52 R o v1 v2 v3 h
  else
  fCh_findRing_l12_j112 R o v1 v2 v3 h)
  else none))
  else none)
  else
  some (.inr (v2, h)))
  else
  some (.inr (v2, h)))
noncomputable def fCh_findRing_l12 (R : jR) (o : Nat) (v1 : Nat) : (Int32 × Int32 × jH) → Option ((Int32 × Int32 × jH) ⊕ (Int32 × jH)) :=
  fun (s : Int32 × Int32 × jH) => fCh_findRing_l12_b R o v1 s.1 s.2.1 s.2.2
theorem kCh_findRing_l12_b {X : jX} {d : Nat} {R : jR} {Q : Option Value → jS → Prop} {o : Nat} {v1 : Nat} {v2 : Int32} {v3 : Int32} {h : jH} (hT : jTy R) (ho : jcl 176 o = 11) (hv1 : jcl 176 v1 = 6) (hd : 4 ≤ (d + 1)) {z : (Int32 × Int32 × jH) ⊕ (Int32 × jH)} (K : fCh_findRing_l12_b R o v1 v2 v3 h = some z) (HL : ∀ s : Int32 × Int32 × jH, z = .inl s → jEx X (d + 1) jc_143 12 [some (.ref o), some (.ref v1), some (.int s.1), some (.int s.2.1), none, none, none] [] (176, R, s.2.2) Q) (HE0 : ∀ x : Int32 × jH, z = .inr x → jEx X (d + 1) jc_143 118 [none, none, some (.int x.1), none, none, none, none] [] (176, R, x.2) Q) :
    jEx X (d + 1) jc_143 12 [some (.ref o), some (.ref v1), some (.int v2), some (.int v3), none, none, none] [] (176, R, h) Q := by
  unfold fCh_findRing_l12_b at K
  refine jx_next (pc := 12) (pc' := 13) rfl rfl ?_
  refine jx_next (pc := 13) (pc' := 14) rfl rfl ?_
  refine jx_getr (pc := 14) rfl ho ?_
  refine jx_callv (pc := 17) (o := (R o 0)) (rest := [.int v3]) rfl ⟨by decide, by decide⟩ rfl (jtR hT ho (k := 0) (c := 8) rfl) (Nat.le_of_ble_eq_true rfl) ?_
  refine kPy_plan hT (jtR hT ho (k := 0) (c := 8) rfl) (by omega) rfl ?_
  refine jx_geti (pc := 20) rfl (kPy_plan_c hT (jtR hT ho (k := 0) (c := 8) rfl)) ?_
  refine jx_icge (pc := 23) rfl (fun hc1 => ?_) (fun hc1 => ?_)
  · replace K := (if_pos hc1).symm.trans K
    refine jx_next (pc := 26) (pc' := 27) rfl rfl ?_
    refine jx_next (pc := 27) (pc' := 29) rfl rfl ?_
    refine jx_icge (pc := 29) rfl (fun hc2 => ?_) (fun hc2 => ?_)
    · replace K := (if_pos hc2).symm.trans K
      refine jx_next (pc := 32) (pc' := 33) rfl rfl ?_
      refine jx_getr (pc := 33) rfl hv1 ?_
      refine jx_next (pc := 36) (pc' := 37) rfl rfl ?_
      obtain ⟨hg3, K⟩ := jguard K
      refine jx_iald (pc := 37) rfl (jtR hT hv1 (k := 2) (c := 20) rfl) hg3 ?_
      refine jx_next (pc := 38) (pc' := 39) rfl rfl ?_
      refine jx_iceq (pc := 39) rfl (fun hc4 => ?_) (fun hc4 => ?_)
      · replace K := (if_pos hc4).symm.trans K
        refine jx_le (pl' := [some (.ref o), some (.ref v1), some (.int v2), some (.int v3), none, none, none]) (jle_v (jle_v (jle_v (jle_v (jle_n (jle_n (jle_n jle_nil))))))) ?_
        exact kCh_findRing_l12_j52 hT ho hv1 hd K HL HE0
      · replace K := (if_neg hc4).symm.trans K
        refine jx_next (pc := 42) (pc' := 43) rfl rfl ?_
        refine jx_getr (pc := 43) rfl hv1 ?_
        refine jx_next (pc := 46) (pc' := 47) rfl rfl ?_
        obtain ⟨hg10, K⟩ := jguard K
        refine jx_iald (pc := 47) rfl (jtR hT hv1 (k := 2) (c := 20) rfl) hg10 ?_
        refine jx_next (pc := 48) (pc' := 49) rfl rfl ?_
        refine jx_icne (pc := 49) rfl (fun hc11 => ?_) (fun hc11 => ?_)
        · replace K := (if_pos hc11).symm.trans K
          refine jx_le (pl' := [some (.ref o), some (.ref v1), some (.int v2), some (.int v3), none, none, none]) (jle_v (jle_v (jle_v (jle_v (jle_n (jle_n (jle_n jle_nil))))))) ?_
          exact kCh_findRing_l12_j52 hT ho hv1 hd K HL HE0
        · replace K := (if_neg hc11).symm.trans K
          refine jx_le (pl' := [some (.ref o), some (.ref v1), some (.int v2), some (.int v3), none, none, none]) (jle_v (jle_v (jle_v (jle_v (jle_n (jle_n (jle_n jle_nil))))))) ?_
          exact kCh_findRing_l12_j112 hT ho hv1 hd K HL HE0
    · replace K := (if_neg hc2).symm.trans K
      obtain rfl := Option.some.inj K
      refine jx_le (pl' := [none, none, some (.int v2), none, none, none, none]) (jle_n (jle_n (jle_v (jle_n (jle_n (jle_n (jle_n jle_nil))))))) ?_
      exact HE0 _ rfl
  · replace K := (if_neg hc1).symm.trans K
    obtain rfl := Option.some.inj K
    refine jx_le (pl' := [none, none, some (.int v2), none, none, none, none]) (jle_n (jle_n (jle_v (jle_n (jle_n (jle_n (jle_n jle_nil))))))) ?_
    exact HE0 _ rfl
theorem kCh_findRing_l12_w {X : jX} {d : Nat} {R : jR} {Q : Option Value → jS → Prop} {o : Nat} {v1 : Nat} (hT : jTy R) (ho : jcl 176 o = 11) (hv1 : jcl 176 v1 = 6) (hd : 4 ≤ (d + 1)) {s : Int32 × Int32 × jH} {x : Int32 × jH} (K : jlim (fCh_findRing_l12 R o v1) s = some x) (HE : jEx X (d + 1) jc_143 118 [none, none, some (.int x.1), none, none, none, none] [] (176, R, x.2) Q) :
    jEx X (d + 1) jc_143 12 [some (.ref o), some (.ref v1), some (.int s.1), some (.int s.2.1), none, none, none] [] (176, R, s.2.2) Q := by
  refine jlim_ok (G := fun s : Int32 × Int32 × jH => jEx X (d + 1) jc_143 12 [some (.ref o), some (.ref v1), some (.int s.1), some (.int s.2.1), none, none, none] [] (176, R, s.2.2) Q) (GX := fun x : Int32 × jH => jEx X (d + 1) jc_143 118 [none, none, some (.int x.1), none, none, none, none] [] (176, R, x.2) Q) (fun s z hz HL HE => ?_) K HE
  exact kCh_findRing_l12_b hT ho hv1 hd hz HL HE
/-- AndGuest$Choices.findRing()I -/
noncomputable def fCh_findRing (R : jR) (o : Nat) (h : jH) : Option (Int32 × jH) :=
  (Option.bind (jlim (fCh_findRing_l12 R o (fPy_standing R (R o 0) h)) ((-1), 0, h)) (fun (x12 : Int32 × jH) =>
  some (x12.1, x12.2)))
theorem kCh_findRing {X : jX} {d : Nat} {R : jR} {Q : Option Value → jS → Prop} {o : Nat} {h : jH} (hT : jTy R) (ho : jcl 176 o = 11) (hd : 4 ≤ d) {z : Int32 × jH} (K : fCh_findRing R o h = some z) (HQ : Q (some (.int z.1)) (176, R, z.2)) :
    jCa X d 143 [.ref o] (176, R, h) Q := by
  obtain ⟨d, rfl⟩ : ∃ d9, d = d9 + 1 := ⟨d - 1, by omega⟩
  unfold fCh_findRing at K
  refine jCa_of (es := jc_143) (pl := [some (.ref o), none, none, none, none, none, none]) (M := jm_143) rfl rfl rfl rfl ?_
  refine jx_next (pc := 0) (pc' := 1) rfl rfl ?_
  refine jx_getr (pc := 1) rfl ho ?_
  refine jx_callv (pc := 4) (o := (R o 0)) (rest := []) rfl ⟨by decide, by decide⟩ rfl (jtR hT ho (k := 0) (c := 8) rfl) (Nat.le_of_ble_eq_true rfl) ?_
  refine kPy_standing hT (jtR hT ho (k := 0) (c := 8) rfl) (by omega) rfl ?_
  refine jx_stan (pc := 7) (p2 := [some (.ref o), some (.ref (fPy_standing R (R o 0) h)), none, none, none, none, none]) rfl (jlt rfl) rfl ?_
  refine jx_next (pc := 8) (pc' := 9) rfl rfl ?_
  refine jx_stin (pc := 9) (p2 := [some (.ref o), some (.ref (fPy_standing R (R o 0) h)), some (.int (-1)), none, none, none, none]) rfl (jlt rfl) rfl ?_
  refine jx_next (pc := 10) (pc' := 11) rfl rfl ?_
  refine jx_stin (pc := 11) (p2 := [some (.ref o), some (.ref (fPy_standing R (R o 0) h)), some (.int (-1)), some (.int 0), none, none, none]) rfl (jlt rfl) rfl ?_
  refine jx_le (pl' := [some (.ref o), some (.ref (fPy_standing R (R o 0) h)), some (.int (-1)), some (.int 0), none, none, none]) (jle_v (jle_v (jle_v (jle_v (jle_n (jle_n (jle_n jle_nil))))))) ?_
  obtain ⟨x12, hz_x12, K⟩ := Option.bind_eq_some_iff.mp K
  refine kCh_findRing_l12_w hT ho (kPy_standing_c hT (jtR hT ho (k := 0) (c := 8) rfl)) hd hz_x12 ?_
  refine jx_next (pc := 118) (pc' := 119) rfl rfl ?_
  obtain rfl := Option.some.inj K
  exact jx_iret (pc := 119) rfl HQ
/-- AndGuest$Choices.ringCost()J -/
noncomputable def fCh_ringCost (R : jR) (o : Nat) (h : jH) : Int64 :=
  (h.2 o 5 : Int64)
theorem kCh_ringCost {X : jX} {d : Nat} {R : jR} {Q : Option Value → jS → Prop} {o : Nat} {h : jH} (hT : jTy R) (ho : jcl 176 o = 11) (hd : 0 ≤ d) {z : Int64} (K : fCh_ringCost R o h = z) (HQ : Q (some (.long z)) (176, R, h)) :
    jCa X d 146 [.ref o] (176, R, h) Q := by
  unfold fCh_ringCost at K
  refine jCa_of (es := jc_146) (pl := [some (.ref o)]) (M := jm_146) rfl rfl rfl rfl ?_
  refine jx_next (pc := 0) (pc' := 1) rfl rfl ?_
  refine jx_getl (pc := 1) rfl ho ?_
  obtain rfl := K
  exact jx_ret (pc := 4) rfl rfl HQ
/-- AndGuest.ring(I)I -/
noncomputable def fA_ring (R : jR) (o : Nat) (v1 : Int32) (h : jH) : Option (Int32 × jH) :=
  (if v1 < 0 then
  some ((-1), h)
  else
  (if 1 < v1 then
  some ((-1), h)
  else
  (Option.bind (fCh_findRing R (R o 9) h) (fun (z3 : Int32 × jH) =>
  (if z3.1 = (-1) then
  some (z3.1, z3.2)
  else
  (if v1 = 0 then
  some (z3.1, z3.2)
  else
  some (((fCh_ringCost R (R o 9) z3.2) / 10000000).toInt32, z3.2)))))))
theorem kA_ring {X : jX} {d : Nat} {R : jR} {Q : Option Value → jS → Prop} {o : Nat} {v1 : Int32} {h : jH} (hT : jTy R) (ho : jcl 176 o = 1) (hd : 5 ≤ d) {z : Int32 × jH} (K : fA_ring R o v1 h = some z) (HQ : Q (some (.int z.1)) (176, R, z.2)) :
    jCa X d 142 [.ref o, .int v1] (176, R, h) Q := by
  obtain ⟨d, rfl⟩ : ∃ d9, d = d9 + 1 := ⟨d - 1, by omega⟩
  unfold fA_ring at K
  refine jCa_of (es := jc_142) (pl := [some (.ref o), some (.int v1), none]) (M := jm_142) rfl rfl rfl rfl ?_
  refine jx_next (pc := 0) (pc' := 1) rfl rfl ?_
  refine jx_iflt (pc := 1) rfl (fun hc1 => ?_) (fun hc1 => ?_)
  · replace K := (if_pos hc1).symm.trans K
    refine jx_next (pc := 9) (pc' := 10) rfl rfl ?_
    obtain rfl := Option.some.inj K
    exact jx_iret (pc := 10) rfl HQ
  · replace K := (if_neg hc1).symm.trans K
    refine jx_next (pc := 4) (pc' := 5) rfl rfl ?_
    refine jx_next (pc := 5) (pc' := 6) rfl rfl ?_
    refine jx_icle (pc := 6) rfl (fun hc2 => ?_) (fun hc2 => ?_)
    · replace K := (if_pos hc2).symm.trans K
      refine jx_next (pc := 9) (pc' := 10) rfl rfl ?_
      obtain rfl := Option.some.inj K
      exact jx_iret (pc := 10) rfl HQ
    · replace K := (if_neg hc2).symm.trans K
      refine jx_next (pc := 11) (pc' := 12) rfl rfl ?_
      refine jx_getr (pc := 12) rfl ho ?_
      refine jx_callv (pc := 15) (o := (R o 9)) (rest := []) rfl ⟨by decide, by decide⟩ rfl (jtR hT ho (k := 9) (c := 11) rfl) (Nat.le_of_ble_eq_true rfl) ?_
      obtain ⟨z3, hz_z3, K⟩ := Option.bind_eq_some_iff.mp K
      refine kCh_findRing hT (jtR hT ho (k := 9) (c := 11) rfl) (by omega) hz_z3 ?_
      refine jx_stin (pc := 18) (p2 := [some (.ref o), some (.int v1), some (.int z3.1)]) rfl (jlt rfl) rfl ?_
      refine jx_next (pc := 19) (pc' := 20) rfl rfl ?_
      refine jx_next (pc := 20) (pc' := 21) rfl rfl ?_
      refine jx_iceq (pc := 21) rfl (fun hc4 => ?_) (fun hc4 => ?_)
      · replace K := (if_pos hc4).symm.trans K
        refine jx_next (pc := 28) (pc' := 29) rfl rfl ?_
        obtain rfl := Option.some.inj K
        exact jx_iret (pc := 29) rfl HQ
      · replace K := (if_neg hc4).symm.trans K
        refine jx_next (pc := 24) (pc' := 25) rfl rfl ?_
        refine jx_ifne (pc := 25) rfl (fun hc5 => ?_) (fun hc5 => ?_)
        · replace K := (if_pos hc5).symm.trans K
          refine jx_next (pc := 28) (pc' := 29) rfl rfl ?_
          obtain rfl := Option.some.inj K
          exact jx_iret (pc := 29) rfl HQ
        · replace K := (if_neg hc5).symm.trans K
          refine jx_next (pc := 30) (pc' := 31) rfl rfl ?_
          refine jx_getr (pc := 31) rfl ho ?_
          refine jx_callv (pc := 34) (o := (R o 9)) (rest := []) rfl ⟨by decide, by decide⟩ rfl (jtR hT ho (k := 9) (c := 11) rfl) (Nat.le_of_ble_eq_true rfl) ?_
          refine kCh_ringCost hT (jtR hT ho (k := 9) (c := 11) rfl) (by omega) rfl ?_
          refine jx_next (pc := 37) (pc' := 40) rfl rfl ?_
          refine jx_ldiv (pc := 40) rfl (by decide) ?_
          refine jx_next (pc := 41) (pc' := 42) rfl rfl ?_
          obtain rfl := Option.some.inj K
          exact jx_iret (pc := 42) rfl HQ
noncomputable def fPy_fullMillionths_l7_j116 (R : jR) (o : Nat) (v1 : Int64) (v3 : Int64) (v5 : Int32) (h : jH) : Option ((Int64 × Int64 × Int32) ⊕ (Int64 × Int64)) :=
  some (.inl (v1, v3, v5 + 1))
theorem kPy_fullMillionths_l7_j116 {X : jX} {d : Nat} {R : jR} {Q : Option Value → jS → Prop} {o : Nat} {v1 : Int64} {v3 : Int64} {v5 : Int32} {h : jH} (hT : jTy R) (ho : jcl 176 o = 8) (hd : 1 ≤ (d + 1)) {z : (Int64 × Int64 × Int32) ⊕ (Int64 × Int64)} (K : fPy_fullMillionths_l7_j116 R o v1 v3 v5 h = some z) (HL : ∀ s : Int64 × Int64 × Int32, z = .inl s → jEx X (d + 1) jc_148 7 [some (.ref o), some (.long s.1), none, some (.long s.2.1), none, some (.int s.2.2), none, none] [] (176, R, h) Q) (HE0 : ∀ x : Int64 × Int64, z = .inr x → jEx X (d + 1) jc_148 122 [none, some (.long x.1), none, some (.long x.2), none, none, none, none] [] (176, R, h) Q) :
    jEx X (d + 1) jc_148 116 [some (.ref o), some (.long v1), none, some (.long v3), none, some (.int v5), none, none] [] (176, R, h) Q := by
  unfold fPy_fullMillionths_l7_j116 at K
  refine jx_inc (pc := 116) (x := v5) (p2 := [some (.ref o), some (.long v1), none, some (.long v3), none, some (.int (v5 + 1)), none, none]) rfl rfl (jlt rfl) rfl ?_
  refine jx_next (pc := 119) (pc' := 7) rfl rfl ?_
  obtain rfl := Option.some.inj K
  refine jx_le (pl' := [some (.ref o), some (.long v1), none, some (.long v3), none, some (.int (v5 + 1)), none, none]) (jle_v (jle_v (jle_n (jle_v (jle_n (jle_v (jle_n (jle_n jle_nil)))))))) ?_
  exact HL _ rfl
noncomputable def fPy_fullMillionths_l7_b (R : jR) (o : Nat) (v1 : Int64) (v3 : Int64) (v5 : Int32) (h : jH) : Option ((Int64 × Int64 × Int32) ⊕ (Int64 × Int64)) :=
  (if v5 < (h.1 (R o 4) 0) then
  (if v5 < 8 then
  (if jin v5 (jsh (R (R o 4) 11)).2 then
  (if jin v5 (jsh (R (R o 0) 2)).2 then
  (if (h.1 (R (R o 0) 2) v5.toNatClampNeg) = 2 then
  fPy_fullMillionths_l7_j116 R o (v1 * ((h.1 (R (R o 4) 11) v5.toNatClampNeg).toInt64)) (v3 * ((fMt_min 10 ((h.1 (R (R o 4) 11) v5.toNatClampNeg) + (h.1 (R o 4) 9))).toInt64)) v5 h
  else
  (if jin v5 (jsh (R (R o 0) 2)).2 then
  (if (h.1 (R (R o 0) 2) v5.toNatClampNeg) = 3 then
  fPy_fullMillionths_l7_j116 R o (v1 * ((10 - (h.1 (R (R o 4) 11) v5.toNatClampNeg)).toInt64)) (v3 * ((10 - (fMt_min 10 ((h.1 (R (R o 4) 11) v5.toNatClampNeg) + (h.1 (R o 4) 9)))).toInt64)) v5 h
  else
  fPy_fullMillionths_l7_j116 R o v1 v3 v5 h)
  else none))
  else none)
  else none)
  else
  some (.inr (v1, v3)))
  else
  some (.inr (v1, v3)))
noncomputable def fPy_fullMillionths_l7 (R : jR) (o : Nat) (h : jH) : (Int64 × Int64 × Int32) → Option ((Int64 × Int64 × Int32) ⊕ (Int64 × Int64)) :=
  fun (s : Int64 × Int64 × Int32) => fPy_fullMillionths_l7_b R o s.1 s.2.1 s.2.2 h
theorem kPy_fullMillionths_l7_b {X : jX} {d : Nat} {R : jR} {Q : Option Value → jS → Prop} {o : Nat} {v1 : Int64} {v3 : Int64} {v5 : Int32} {h : jH} (hT : jTy R) (ho : jcl 176 o = 8) (hd : 1 ≤ (d + 1)) {z : (Int64 × Int64 × Int32) ⊕ (Int64 × Int64)} (K : fPy_fullMillionths_l7_b R o v1 v3 v5 h = some z) (HL : ∀ s : Int64 × Int64 × Int32, z = .inl s → jEx X (d + 1) jc_148 7 [some (.ref o), some (.long s.1), none, some (.long s.2.1), none, some (.int s.2.2), none, none] [] (176, R, h) Q) (HE0 : ∀ x : Int64 × Int64, z = .inr x → jEx X (d + 1) jc_148 122 [none, some (.long x.1), none, some (.long x.2), none, none, none, none] [] (176, R, h) Q) :
    jEx X (d + 1) jc_148 7 [some (.ref o), some (.long v1), none, some (.long v3), none, some (.int v5), none, none] [] (176, R, h) Q := by
  unfold fPy_fullMillionths_l7_b at K
  refine jx_next (pc := 7) (pc' := 9) rfl rfl ?_
  refine jx_next (pc := 9) (pc' := 10) rfl rfl ?_
  refine jx_getr (pc := 10) rfl ho ?_
  refine jx_geti (pc := 13) rfl (jtR hT ho (k := 4) (c := 10) rfl) ?_
  refine jx_icge (pc := 16) rfl (fun hc1 => ?_) (fun hc1 => ?_)
  · replace K := (if_pos hc1).symm.trans K
    refine jx_next (pc := 19) (pc' := 21) rfl rfl ?_
    refine jx_next (pc := 21) (pc' := 23) rfl rfl ?_
    refine jx_icge (pc := 23) rfl (fun hc2 => ?_) (fun hc2 => ?_)
    · replace K := (if_pos hc2).symm.trans K
      refine jx_next (pc := 26) (pc' := 27) rfl rfl ?_
      refine jx_getr (pc := 27) rfl ho ?_
      refine jx_getr (pc := 30) rfl (jtR hT ho (k := 4) (c := 10) rfl) ?_
      refine jx_next (pc := 33) (pc' := 35) rfl rfl ?_
      obtain ⟨hg3, K⟩ := jguard K
      refine jx_iald (pc := 35) rfl (jtR hT (jtR hT ho (k := 4) (c := 10) rfl) (k := 11) (c := 20) rfl) hg3 ?_
      refine jx_sti (pc := 36) (p2 := [some (.ref o), some (.long v1), none, some (.long v3), none, some (.int v5), some (.int (h.1 (R (R o 4) 11) v5.toNatClampNeg)), none]) rfl (jlt rfl) rfl ?_
      refine jx_next (pc := 38) (pc' := 40) rfl rfl ?_
      refine jx_next (pc := 40) (pc' := 42) rfl rfl ?_
      refine jx_next (pc := 42) (pc' := 43) rfl rfl ?_
      refine jx_getr (pc := 43) rfl ho ?_
      refine jx_geti (pc := 46) rfl (jtR hT ho (k := 4) (c := 10) rfl) ?_
      refine jx_next (pc := 49) (pc' := 50) rfl rfl ?_
      refine jx_calls (pc := 50) rfl (Nat.le_of_ble_eq_true rfl) (Nat.le_of_ble_eq_true rfl) ?_
      refine kMt_min  (by omega) rfl ?_
      refine jx_sti (pc := 53) (p2 := [some (.ref o), some (.long v1), none, some (.long v3), none, some (.int v5), some (.int (h.1 (R (R o 4) 11) v5.toNatClampNeg)), some (.int (fMt_min 10 ((h.1 (R (R o 4) 11) v5.toNatClampNeg) + (h.1 (R o 4) 9))))]) rfl (jlt rfl) rfl ?_
      refine jx_next (pc := 55) (pc' := 56) rfl rfl ?_
      refine jx_getr (pc := 56) rfl ho ?_
      refine jx_getr (pc := 59) rfl (jtR hT ho (k := 0) (c := 6) rfl) ?_
      refine jx_next (pc := 62) (pc' := 64) rfl rfl ?_
      obtain ⟨hg4, K⟩ := jguard K
      refine jx_iald (pc := 64) rfl (jtR hT (jtR hT ho (k := 0) (c := 6) rfl) (k := 2) (c := 20) rfl) hg4 ?_
      refine jx_next (pc := 65) (pc' := 66) rfl rfl ?_
      refine jx_icne (pc := 66) rfl (fun hc5 => ?_) (fun hc5 => ?_)
      · replace K := (if_pos hc5).symm.trans K
        refine jx_next (pc := 69) (pc' := 70) rfl rfl ?_
        refine jx_next (pc := 70) (pc' := 72) rfl rfl ?_
        refine jx_next (pc := 72) (pc' := 73) rfl rfl ?_
        refine jx_next (pc := 73) (pc' := 74) rfl rfl ?_
        refine jx_stln (pc := 74) (p2 := [some (.ref o), some (.long (v1 * ((h.1 (R (R o 4) 11) v5.toNatClampNeg).toInt64))), none, some (.long v3), none, some (.int v5), some (.int (h.1 (R (R o 4) 11) v5.toNatClampNeg)), some (.int (fMt_min 10 ((h.1 (R (R o 4) 11) v5.toNatClampNeg) + (h.1 (R o 4) 9))))]) rfl (jlt rfl) rfl ?_
        refine jx_next (pc := 75) (pc' := 76) rfl rfl ?_
        refine jx_next (pc := 76) (pc' := 78) rfl rfl ?_
        refine jx_next (pc := 78) (pc' := 79) rfl rfl ?_
        refine jx_next (pc := 79) (pc' := 80) rfl rfl ?_
        refine jx_stln (pc := 80) (p2 := [some (.ref o), some (.long (v1 * ((h.1 (R (R o 4) 11) v5.toNatClampNeg).toInt64))), none, some (.long (v3 * ((fMt_min 10 ((h.1 (R (R o 4) 11) v5.toNatClampNeg) + (h.1 (R o 4) 9))).toInt64))), none, some (.int v5), some (.int (h.1 (R (R o 4) 11) v5.toNatClampNeg)), some (.int (fMt_min 10 ((h.1 (R (R o 4) 11) v5.toNatClampNeg) + (h.1 (R o 4) 9))))]) rfl (jlt rfl) rfl ?_
        refine jx_next (pc := 81) (pc' := 116) rfl rfl ?_
        refine jx_le (pl' := [some (.ref o), some (.long (v1 * ((h.1 (R (R o 4) 11) v5.toNatClampNeg).toInt64))), none, some (.long (v3 * ((fMt_min 10 ((h.1 (R (R o 4) 11) v5.toNatClampNeg) + (h.1 (R o 4) 9))).toInt64))), none, some (.int v5), none, none]) (jle_v (jle_v (jle_n (jle_v (jle_n (jle_v (jle_n (jle_n jle_nil)))))))) ?_
        exact kPy_fullMillionths_l7_j116 hT ho hd K HL HE0
      · replace K := (if_neg hc5).symm.trans K
        refine jx_next (pc := 84) (pc' := 85) rfl rfl ?_
        refine jx_getr (pc := 85) rfl ho ?_
        refine jx_getr (pc := 88) rfl (jtR hT ho (k := 0) (c := 6) rfl) ?_
        refine jx_next (pc := 91) (pc' := 93) rfl rfl ?_
        obtain ⟨hg6, K⟩ := jguard K
        refine jx_iald (pc := 93) rfl (jtR hT (jtR hT ho (k := 0) (c := 6) rfl) (k := 2) (c := 20) rfl) hg6 ?_
        refine jx_next (pc := 94) (pc' := 95) rfl rfl ?_
        refine jx_icne (pc := 95) rfl (fun hc7 => ?_) (fun hc7 => ?_)
        · replace K := (if_pos hc7).symm.trans K
          refine jx_next (pc := 98) (pc' := 99) rfl rfl ?_
          refine jx_next (pc := 99) (pc' := 101) rfl rfl ?_
          refine jx_next (pc := 101) (pc' := 103) rfl rfl ?_
          refine jx_next (pc := 103) (pc' := 104) rfl rfl ?_
          refine jx_next (pc := 104) (pc' := 105) rfl rfl ?_
          refine jx_next (pc := 105) (pc' := 106) rfl rfl ?_
          refine jx_stln (pc := 106) (p2 := [some (.ref o), some (.long (v1 * ((10 - (h.1 (R (R o 4) 11) v5.toNatClampNeg)).toInt64))), none, some (.long v3), none, some (.int v5), some (.int (h.1 (R (R o 4) 11) v5.toNatClampNeg)), some (.int (fMt_min 10 ((h.1 (R (R o 4) 11) v5.toNatClampNeg) + (h.1 (R o 4) 9))))]) rfl (jlt rfl) rfl ?_
          refine jx_next (pc := 107) (pc' := 108) rfl rfl ?_
          refine jx_next (pc := 108) (pc' := 110) rfl rfl ?_
          refine jx_next (pc := 110) (pc' := 112) rfl rfl ?_
          refine jx_next (pc := 112) (pc' := 113) rfl rfl ?_
          refine jx_next (pc := 113) (pc' := 114) rfl rfl ?_
          refine jx_next (pc := 114) (pc' := 115) rfl rfl ?_
          refine jx_stln (pc := 115) (p2 := [some (.ref o), some (.long (v1 * ((10 - (h.1 (R (R o 4) 11) v5.toNatClampNeg)).toInt64))), none, some (.long (v3 * ((10 - (fMt_min 10 ((h.1 (R (R o 4) 11) v5.toNatClampNeg) + (h.1 (R o 4) 9)))).toInt64))), none, some (.int v5), some (.int (h.1 (R (R o 4) 11) v5.toNatClampNeg)), some (.int (fMt_min 10 ((h.1 (R (R o 4) 11) v5.toNatClampNeg) + (h.1 (R o 4) 9))))]) rfl (jlt rfl) rfl ?_
          refine jx_le (pl' := [some (.ref o), some (.long (v1 * ((10 - (h.1 (R (R o 4) 11) v5.toNatClampNeg)).toInt64))), none, some (.long (v3 * ((10 - (fMt_min 10 ((h.1 (R (R o 4) 11) v5.toNatClampNeg) + (h.1 (R o 4) 9)))).toInt64))), none, some (.int v5), none, none]) (jle_v (jle_v (jle_n (jle_v (jle_n (jle_v (jle_n (jle_n jle_nil)))))))) ?_
          exact kPy_fullMillionths_l7_j116 hT ho hd K HL HE0
        · replace K := (if_neg hc7).symm.trans K
          refine jx_le (pl' := [some (.ref o), some (.long v1), none, some (.long v3), none, some (.int v5), none, none]) (jle_v (jle_v (jle_n (jle_v (jle_n (jle_v (jle_n (jle_n jle_nil)))))))) ?_
          exact kPy_fullMillionths_l7_j116 hT ho hd K HL HE0
    · replace K := (if_neg hc2).symm.trans K
      obtain rfl := Option.some.inj K
      refine jx_le (pl' := [none, some (.long v1), none, some (.long v3), none, none, none, none]) (jle_n (jle_v (jle_n (jle_v (jle_n (jle_n (jle_n (jle_n jle_nil)))))))) ?_
      exact HE0 _ rfl
  · replace K := (if_neg hc1).symm.trans K
    obtain rfl := Option.some.inj K
    refine jx_le (pl' := [none, some (.long v1), none, some (.long v3), none, none, none, none]) (jle_n (jle_v (jle_n (jle_v (jle_n (jle_n (jle_n (jle_n jle_nil)))))))) ?_
    exact HE0 _ rfl
theorem kPy_fullMillionths_l7_w {X : jX} {d : Nat} {R : jR} {Q : Option Value → jS → Prop} {o : Nat} {h : jH} (hT : jTy R) (ho : jcl 176 o = 8) (hd : 1 ≤ (d + 1)) {s : Int64 × Int64 × Int32} {x : Int64 × Int64} (K : jlim (fPy_fullMillionths_l7 R o h) s = some x) (HE : jEx X (d + 1) jc_148 122 [none, some (.long x.1), none, some (.long x.2), none, none, none, none] [] (176, R, h) Q) :
    jEx X (d + 1) jc_148 7 [some (.ref o), some (.long s.1), none, some (.long s.2.1), none, some (.int s.2.2), none, none] [] (176, R, h) Q := by
  refine jlim_ok (G := fun s : Int64 × Int64 × Int32 => jEx X (d + 1) jc_148 7 [some (.ref o), some (.long s.1), none, some (.long s.2.1), none, some (.int s.2.2), none, none] [] (176, R, h) Q) (GX := fun x : Int64 × Int64 => jEx X (d + 1) jc_148 122 [none, some (.long x.1), none, some (.long x.2), none, none, none, none] [] (176, R, h) Q) (fun s z hz HL HE => ?_) K HE
  exact kPy_fullMillionths_l7_b hT ho hd hz HL HE
/-- AndGuest$Party.fullMillionths()I -/
noncomputable def fPy_fullMillionths (R : jR) (o : Nat) (h : jH) : Option Int32 :=
  (Option.bind (jlim (fPy_fullMillionths_l7 R o h) (1, 1, 0)) (fun (x8 : Int64 × Int64) =>
  (if 0 < (x8.1 + x8.2) then
  (if ¬ (x8.1 + x8.2) = 0 then
  some (((x8.2 * 1000000) / (x8.1 + x8.2)).toInt32 : Int32)
  else none)
  else
  some (500000 : Int32))))
theorem kPy_fullMillionths {X : jX} {d : Nat} {R : jR} {Q : Option Value → jS → Prop} {o : Nat} {h : jH} (hT : jTy R) (ho : jcl 176 o = 8) (hd : 1 ≤ d) {z : Int32} (K : fPy_fullMillionths R o h = some z) (HQ : Q (some (.int z)) (176, R, h)) :
    jCa X d 148 [.ref o] (176, R, h) Q := by
  obtain ⟨d, rfl⟩ : ∃ d9, d = d9 + 1 := ⟨d - 1, by omega⟩
  unfold fPy_fullMillionths at K
  refine jCa_of (es := jc_148) (pl := [some (.ref o), none, none, none, none, none, none, none]) (M := jm_148) rfl rfl rfl rfl ?_
  refine jx_next (pc := 0) (pc' := 1) rfl rfl ?_
  refine jx_stln (pc := 1) (p2 := [some (.ref o), some (.long 1), none, none, none, none, none, none]) rfl (jlt rfl) rfl ?_
  refine jx_next (pc := 2) (pc' := 3) rfl rfl ?_
  refine jx_stln (pc := 3) (p2 := [some (.ref o), some (.long 1), none, some (.long 1), none, none, none, none]) rfl (jlt rfl) rfl ?_
  refine jx_next (pc := 4) (pc' := 5) rfl rfl ?_
  refine jx_sti (pc := 5) (p2 := [some (.ref o), some (.long 1), none, some (.long 1), none, some (.int 0), none, none]) rfl (jlt rfl) rfl ?_
  refine jx_le (pl' := [some (.ref o), some (.long 1), none, some (.long 1), none, some (.int 0), none, none]) (jle_v (jle_v (jle_n (jle_v (jle_n (jle_v (jle_n (jle_n jle_nil)))))))) ?_
  obtain ⟨x8, hz_x8, K⟩ := Option.bind_eq_some_iff.mp K
  refine kPy_fullMillionths_l7_w hT ho hd hz_x8 ?_
  refine jx_next (pc := 122) (pc' := 123) rfl rfl ?_
  refine jx_next (pc := 123) (pc' := 124) rfl rfl ?_
  refine jx_next (pc := 124) (pc' := 125) rfl rfl ?_
  refine jx_stl (pc := 125) (p2 := [none, some (.long x8.1), none, some (.long x8.2), none, some (.long (x8.1 + x8.2)), none, none]) rfl (jlt rfl) rfl ?_
  refine jx_next (pc := 127) (pc' := 129) rfl rfl ?_
  refine jx_next (pc := 129) (pc' := 130) rfl rfl ?_
  refine jx_lcgt (pc := 130) rfl rfl (fun hc9 => ?_) (fun hc9 => ?_)
  · replace K := (if_pos hc9).symm.trans K
    refine jx_next (pc := 139) (pc' := 140) rfl rfl ?_
    refine jx_next (pc := 140) (pc' := 143) rfl rfl ?_
    refine jx_next (pc := 143) (pc' := 144) rfl rfl ?_
    refine jx_next (pc := 144) (pc' := 146) rfl rfl ?_
    obtain ⟨hg, K⟩ := jguard K
    refine jx_ldiv (pc := 146) rfl hg ?_
    refine jx_next (pc := 147) (pc' := 148) rfl rfl ?_
    obtain rfl := Option.some.inj K
    exact jx_iret (pc := 148) rfl HQ
  · replace K := (if_neg hc9).symm.trans K
    refine jx_next (pc := 134) (pc' := 136) rfl rfl ?_
    refine jx_next (pc := 136) (pc' := 148) rfl rfl ?_
    obtain rfl := Option.some.inj K
    exact jx_iret (pc := 148) rfl HQ
/-- AndGuest.full()I -/
noncomputable def fA_full (R : jR) (o : Nat) (h : jH) : Option Int32 :=
  (if (h.1 o 12) = 0 then
  some ((-1) : Int32)
  else
  (Option.bind (fPy_fullMillionths R (R o 8) h) (fun (z2 : Int32) =>
  some (z2 : Int32))))
theorem kA_full {X : jX} {d : Nat} {R : jR} {Q : Option Value → jS → Prop} {o : Nat} {h : jH} (hT : jTy R) (ho : jcl 176 o = 1) (hd : 2 ≤ d) {z : Int32} (K : fA_full R o h = some z) (HQ : Q (some (.int z)) (176, R, h)) :
    jCa X d 147 [.ref o] (176, R, h) Q := by
  obtain ⟨d, rfl⟩ : ∃ d9, d = d9 + 1 := ⟨d - 1, by omega⟩
  unfold fA_full at K
  refine jCa_of (es := jc_147) (pl := [some (.ref o)]) (M := jm_147) rfl rfl rfl rfl ?_
  refine jx_next (pc := 0) (pc' := 1) rfl rfl ?_
  refine jx_getz (pc := 1) rfl ho ?_
  refine jx_ifeq (pc := 4) rfl (fun hc1 => ?_) (fun hc1 => ?_)
  · replace K := (if_pos hc1).symm.trans K
    refine jx_next (pc := 17) (pc' := 18) rfl rfl ?_
    obtain rfl := Option.some.inj K
    exact jx_iret (pc := 18) rfl HQ
  · replace K := (if_neg hc1).symm.trans K
    refine jx_next (pc := 7) (pc' := 8) rfl rfl ?_
    refine jx_getr (pc := 8) rfl ho ?_
    refine jx_callv (pc := 11) (o := (R o 8)) (rest := []) rfl ⟨by decide, by decide⟩ rfl (jtR hT ho (k := 8) (c := 8) rfl) (Nat.le_of_ble_eq_true rfl) ?_
    obtain ⟨z2, hz_z2, K⟩ := Option.bind_eq_some_iff.mp K
    refine kPy_fullMillionths hT (jtR hT ho (k := 8) (c := 8) rfl) (by omega) hz_z2 ?_
    refine jx_next (pc := 14) (pc' := 18) rfl rfl ?_
    obtain rfl := Option.some.inj K
    exact jx_iret (pc := 18) rfl HQ
/-- AndGuest$Plan.isSeen(III)Z -/
noncomputable def fPn_isSeen (R : jR) (o : Nat) (v1 : Int32) (v2 : Int32) (v3 : Int32) (h : jH) : Option Int32 :=
  (Option.bind (fPn_sumOver R o v1 (R o 13) h) (fun (z1 : Int32) =>
  (if z1 = v2 then
  (Option.bind (fPn_sumOver R o v1 (R o 12) h) (fun (z3 : Int32) =>
  (if z3 = v3 then
  some (1 : Int32)
  else
  some (0 : Int32))))
  else
  some (0 : Int32))))
theorem kPn_isSeen {X : jX} {d : Nat} {R : jR} {Q : Option Value → jS → Prop} {o : Nat} {v1 : Int32} {v2 : Int32} {v3 : Int32} {h : jH} (hT : jTy R) (ho : jcl 176 o = 10) (hd : 1 ≤ d) {z : Int32} (K : fPn_isSeen R o v1 v2 v3 h = some z) (HQ : Q (some (.int z)) (176, R, h)) :
    jCa X d 151 [.ref o, .int v1, .int v2, .int v3] (176, R, h) Q := by
  obtain ⟨d, rfl⟩ : ∃ d9, d = d9 + 1 := ⟨d - 1, by omega⟩
  unfold fPn_isSeen at K
  refine jCa_of (es := jc_151) (pl := [some (.ref o), some (.int v1), some (.int v2), some (.int v3)]) (M := jm_151) rfl rfl rfl rfl ?_
  refine jx_next (pc := 0) (pc' := 1) rfl rfl ?_
  refine jx_next (pc := 1) (pc' := 2) rfl rfl ?_
  refine jx_next (pc := 2) (pc' := 3) rfl rfl ?_
  refine jx_getr (pc := 3) rfl ho ?_
  refine jx_callv (pc := 6) (o := o) (rest := []) rfl ⟨by decide, by decide⟩ rfl ho (Nat.le_of_ble_eq_true rfl) ?_
  obtain ⟨z1, hz_z1, K⟩ := Option.bind_eq_some_iff.mp K
  refine kPn_sumOver hT ho (jtR hT ho (k := 13) (c := 20) rfl) (by omega) hz_z1 ?_
  refine jx_next (pc := 9) (pc' := 10) rfl rfl ?_
  refine jx_icne (pc := 10) rfl (fun hc2 => ?_) (fun hc2 => ?_)
  · replace K := (if_pos hc2).symm.trans K
    refine jx_next (pc := 13) (pc' := 14) rfl rfl ?_
    refine jx_next (pc := 14) (pc' := 15) rfl rfl ?_
    refine jx_next (pc := 15) (pc' := 16) rfl rfl ?_
    refine jx_getr (pc := 16) rfl ho ?_
    refine jx_callv (pc := 19) (o := o) (rest := []) rfl ⟨by decide, by decide⟩ rfl ho (Nat.le_of_ble_eq_true rfl) ?_
    obtain ⟨z3, hz_z3, K⟩ := Option.bind_eq_some_iff.mp K
    refine kPn_sumOver hT ho (jtR hT ho (k := 12) (c := 20) rfl) (by omega) hz_z3 ?_
    refine jx_next (pc := 22) (pc' := 23) rfl rfl ?_
    refine jx_icne (pc := 23) rfl (fun hc4 => ?_) (fun hc4 => ?_)
    · replace K := (if_pos hc4).symm.trans K
      refine jx_next (pc := 26) (pc' := 27) rfl rfl ?_
      refine jx_next (pc := 27) (pc' := 31) rfl rfl ?_
      obtain rfl := Option.some.inj K
      exact jx_zret (pc := 31) rfl (Or.inr rfl) HQ
    · replace K := (if_neg hc4).symm.trans K
      refine jx_next (pc := 30) (pc' := 31) rfl rfl ?_
      obtain rfl := Option.some.inj K
      exact jx_zret (pc := 31) rfl (Or.inl rfl) HQ
  · replace K := (if_neg hc2).symm.trans K
    refine jx_next (pc := 30) (pc' := 31) rfl rfl ?_
    obtain rfl := Option.some.inj K
    exact jx_zret (pc := 31) rfl (Or.inl rfl) HQ
