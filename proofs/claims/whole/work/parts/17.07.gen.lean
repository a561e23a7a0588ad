/-- AndGuest$Formula.readSign(LAndGuest$Reader;)I -/
noncomputable def fFo_readSign  (h : jH) : Option (Int32 × jH) :=
  (Option.bind (fRd_takesSign 60 h) (fun (z1 : Int32 × jH) =>
  (if z1.1 = 0 then
  (Option.bind (fRd_takesSign 62 z1.2) (fun (z3 : Int32 × jH) =>
  (if z3.1 = 0 then
  (Option.bind (fRd_wantsSign 61 z3.2) (fun (z5 : jH) =>
  some ((-19), z5)))
  else
  some ((-18), z3.2))))
  else
  some ((-17), z1.2))))
theorem kFo_readSign {X : jX} {dd : Nat} {p d : Nat} {q : Nat → Nat} {Q : Option Value → jS → Prop}  {h : jH} (hP : jOK p d q)  (hd : 3 ≤ dd) {z : Int32 × jH} (K : fFo_readSign  h = some z) (HQ : Q (some (.int z.1)) (176, jRf p d q, z.2)) :
    jCa X dd 173 [.ref 6] (176, jRf p d q, h) Q := by
  obtain ⟨dd, rfl⟩ : ∃ d9, dd = d9 + 1 := ⟨dd - 1, by omega⟩
  unfold fFo_readSign at K
  refine jCa_of (es := jc_173) (pl := [some (.ref 6)]) (M := jm_173) rfl rfl rfl rfl ?_
  refine jx_next (pc := 0) (pc' := 1) rfl rfl ?_
  refine jx_next (pc := 1) (pc' := 3) rfl rfl ?_
  refine jx_callv (pc := 3) (o := 6) (rest := []) rfl ⟨by decide, by decide⟩ rfl jko_6 (Nat.le_of_ble_eq_true rfl) ?_
  obtain ⟨z1, hz_z1, K⟩ := Option.bind_eq_some_iff.mp K
  refine kRd_takesSign hP (by omega) hz_z1 ?_
  refine jx_ifeq (pc := 6) rfl (fun hc2 => ?_) (fun hc2 => ?_)
  · replace K := (if_pos hc2).symm.trans K
    refine jx_next (pc := 12) (pc' := 13) rfl rfl ?_
    refine jx_next (pc := 13) (pc' := 15) rfl rfl ?_
    refine jx_callv (pc := 15) (o := 6) (rest := []) rfl ⟨by decide, by decide⟩ rfl jko_6 (Nat.le_of_ble_eq_true rfl) ?_
    obtain ⟨z3, hz_z3, K⟩ := Option.bind_eq_some_iff.mp K
    refine kRd_takesSign hP (by omega) hz_z3 ?_
    refine jx_ifeq (pc := 18) rfl (fun hc4 => ?_) (fun hc4 => ?_)
    · replace K := (if_pos hc4).symm.trans K
      refine jx_next (pc := 24) (pc' := 25) rfl rfl ?_
      refine jx_next (pc := 25) (pc' := 27) rfl rfl ?_
      refine jx_callv (pc := 27) (o := 6) (rest := []) rfl ⟨by decide, by decide⟩ rfl jko_6 (Nat.le_of_ble_eq_true rfl) ?_
      obtain ⟨z5, hz_z5, K⟩ := Option.bind_eq_some_iff.mp K
      refine kRd_wantsSign hP (by omega) hz_z5 ?_
      refine jx_next (pc := 30) (pc' := 32) rfl rfl ?_
      obtain rfl := Option.some.inj K
      exact jx_iret (pc := 32) rfl HQ
    · replace K := (if_neg hc4).symm.trans K
      refine jx_next (pc := 21) (pc' := 23) rfl rfl ?_
      obtain rfl := Option.some.inj K
      exact jx_iret (pc := 23) rfl HQ
  · replace K := (if_neg hc2).symm.trans K
    refine jx_next (pc := 9) (pc' := 11) rfl rfl ?_
    obtain rfl := Option.some.inj K
    exact jx_iret (pc := 11) rfl HQ
/-- AndGuest$Reader.wantsEnd()V -/
noncomputable def fRd_wantsEnd  (h : jH) : jH :=
  (if (h.1 6 3) = 0 then
  h
  else
  (fRd_failHere 1 h))
theorem kRd_wantsEnd {X : jX} {dd : Nat} {p d : Nat} {q : Nat → Nat} {Q : Option Value → jS → Prop}  {h : jH} (hP : jOK p d q)  (hd : 2 ≤ dd) {z : jH} (K : fRd_wantsEnd  h = z) (HQ : Q none (176, jRf p d q, z)) :
    jCa X dd 174 [.ref 6] (176, jRf p d q, h) Q := by
  obtain ⟨dd, rfl⟩ : ∃ d9, dd = d9 + 1 := ⟨dd - 1, by omega⟩
  unfold fRd_wantsEnd at K
  refine jCa_of (es := jc_174) (pl := [some (.ref 6)]) (M := jm_174) rfl rfl rfl rfl ?_
  refine jx_next (pc := 0) (pc' := 1) rfl rfl ?_
  refine jx_geti (pc := 1) rfl jko_6 ?_
  refine jx_ifeq (pc := 4) rfl (fun hc1 => ?_) (fun hc1 => ?_)
  · replace K := (if_pos hc1).symm.trans K
    obtain rfl := K
    exact jx_ret (pc := 12) rfl rfl HQ
  · replace K := (if_neg hc1).symm.trans K
    refine jx_next (pc := 7) (pc' := 8) rfl rfl ?_
    refine jx_next (pc := 8) (pc' := 9) rfl rfl ?_
    refine jx_callv (pc := 9) (o := 6) (rest := []) rfl ⟨by decide, by decide⟩ rfl jko_6 (Nat.le_of_ble_eq_true rfl) ?_
    refine kRd_failHere hP (by omega) rfl ?_
    obtain rfl := K
    exact jx_ret (pc := 12) rfl rfl HQ
/-- AndGuest$Party.valueFor(LAndGuest$Formula;I)I -/
noncomputable def fPy_valueFor (p : Nat) (v1 : Nat) (v2 : Int32) (h : jH) : Option (Int32 × jH) :=
  (if v2 < 0 then
  some (0, h)
  else
  (if v2 < 8 then
  (if jin v2 8 then
  (Option.bind (fPy_fillFacts p v2 (h.1 (11 + 2) v2.toNatClampNeg) h) (fun (z4 : jH) =>
  (Option.bind (fFo_valueFor v1 82 (p + 8) z4) (fun (z5 : Int32 × jH) =>
  some (z5.1, z5.2)))))
  else none)
  else
  some (0, h)))
theorem kPy_valueFor {X : jX} {dd : Nat} {p d : Nat} {q : Nat → Nat} {Q : Option Value → jS → Prop} {v1 : Nat} {v2 : Int32} {h : jH} (hP : jOK p d q) (hv1 : jcl 176 v1 = 5) (hd : 4 ≤ dd) {z : Int32 × jH} (K : fPy_valueFor p v1 v2 h = some z) (HQ : Q (some (.int z.1)) (176, jRf p d q, z.2)) :
    jCa X dd 176 [.ref 79, .ref v1, .int v2] (176, jRf p d q, h) Q := by
  obtain ⟨dd, rfl⟩ : ∃ d9, dd = d9 + 1 := ⟨dd - 1, by omega⟩
  unfold fPy_valueFor at K
  refine jCa_of (es := jc_176) (pl := [some (.ref 79), some (.ref v1), some (.int v2)]) (M := jm_176) rfl rfl rfl rfl ?_
  refine jx_next (pc := 0) (pc' := 1) rfl rfl ?_
  refine jx_iflt (pc := 1) rfl (fun hc1 => ?_) (fun hc1 => ?_)
  · replace K := (if_pos hc1).symm.trans K
    refine jx_next (pc := 10) (pc' := 11) rfl rfl ?_
    obtain rfl := Option.some.inj K
    exact jx_iret (pc := 11) rfl HQ
  · replace K := (if_neg hc1).symm.trans K
    refine jx_next (pc := 4) (pc' := 5) rfl rfl ?_
    refine jx_next (pc := 5) (pc' := 7) rfl rfl ?_
    refine jx_iclt (pc := 7) rfl (fun hc2 => ?_) (fun hc2 => ?_)
    · replace K := (if_pos hc2).symm.trans K
      refine jx_next (pc := 12) (pc' := 13) rfl rfl ?_
      refine jx_next (pc := 13) (pc' := 14) rfl rfl ?_
      refine jx_next (pc := 14) (pc' := 15) rfl rfl ?_
      refine jx_getr2 (pc := 15) rfl jko_79 jr_8_0 ?_
      refine jx_getr2 (pc := 18) rfl jko_11 (jrm_6_3 jko_11) ?_
      refine jx_next (pc := 21) (pc' := 22) rfl rfl ?_
      obtain ⟨hg3, K⟩ := jguard K
      refine jx_iald2 (pc := 22) rfl (jkm_6_3 jko_11) (jnm_6_3 jko_11) hg3 ?_
      refine jx_callv (pc := 23) (o := 79) (rest := []) rfl ⟨by decide, by decide⟩ rfl jko_79 (Nat.le_of_ble_eq_true rfl) ?_
      obtain ⟨z4, hz_z4, K⟩ := Option.bind_eq_some_iff.mp K
      refine kPy_fillFacts hP (by omega) hz_z4 ?_
      refine jx_next (pc := 26) (pc' := 27) rfl rfl ?_
      refine jx_next (pc := 27) (pc' := 28) rfl rfl ?_
      refine jx_getr2 (pc := 28) rfl jko_79 jr_8_2 ?_
      refine jx_next (pc := 31) (pc' := 32) rfl rfl ?_
      refine jx_getr2 (pc := 32) rfl jko_79 jr_8_4 ?_
      refine jx_getr2 (pc := 35) rfl hP.1 (jrm_10_17 hP.1) ?_
      refine jx_callv (pc := 38) (o := v1) (rest := []) rfl ⟨by decide, by decide⟩ rfl hv1 (Nat.le_of_ble_eq_true rfl) ?_
      obtain ⟨z5, hz_z5, K⟩ := Option.bind_eq_some_iff.mp K
      refine kFo_valueFor hP hv1 jko_82 (jkm_10_17 hP.1) (by omega) hz_z5 ?_
      obtain rfl := Option.some.inj K
      exact jx_iret (pc := 41) rfl HQ
    · replace K := (if_neg hc2).symm.trans K
      refine jx_next (pc := 10) (pc' := 11) rfl rfl ?_
      obtain rfl := Option.some.inj K
      exact jx_iret (pc := 11) rfl HQ
noncomputable def fA_answerOfTest_l7_j54 (p : Nat) (v1 : Int32) (v2 : Int32) (v3 : Int32) (v4 : Int32) (h : jH) : Option ((Int32 × Int32 × Int32 × jH) ⊕ (Int32 × Int32 × jH)) :=
  some (.inl (v2, v3, v4 + 1, h))
theorem kA_answerOfTest_l7_j54 {X : jX} {dd : Nat} {p d : Nat} {q : Nat → Nat} {Q : Option Value → jS → Prop} {v1 : Int32} {v2 : Int32} {v3 : Int32} {v4 : Int32} {h : jH} (hP : jOK p d q)  (hd : 5 ≤ (dd + 1)) {z : (Int32 × Int32 × Int32 × jH) ⊕ (Int32 × Int32 × jH)} (K : fA_answerOfTest_l7_j54 p v1 v2 v3 v4 h = some z) (HL : ∀ s : Int32 × Int32 × Int32 × jH, z = .inl s → jEx X (dd + 1) jc_175 7 [some (.ref 1), some (.int v1), some (.int s.1), some (.int s.2.1), some (.int s.2.2.1)] [] (176, jRf p d q, s.2.2.2) Q) (HE0 : ∀ x : Int32 × Int32 × jH, z = .inr x → jEx X (dd + 1) jc_175 60 [none, some (.int v1), some (.int x.1), some (.int x.2.1), none] [] (176, jRf p d q, x.2.2) Q) :
    jEx X (dd + 1) jc_175 54 [some (.ref 1), some (.int v1), some (.int v2), some (.int v3), some (.int v4)] [] (176, jRf p d q, h) Q := by
  unfold fA_answerOfTest_l7_j54 at K
  refine jx_inc (pc := 54) (x := v4) (p2 := [some (.ref 1), some (.int v1), some (.int v2), some (.int v3), some (.int (v4 + 1))]) rfl rfl (jlt rfl) rfl ?_
  refine jx_next (pc := 57) (pc' := 7) rfl rfl ?_
  obtain rfl := Option.some.inj K
  refine jx_le (pl' := [some (.ref 1), some (.int v1), some (.int v2), some (.int v3), some (.int (v4 + 1))]) (jle_v (jle_v (jle_v (jle_v (jle_v jle_nil))))) ?_
  exact HL (v2, v3, v4 + 1, h) rfl
noncomputable def fA_answerOfTest_l7_j51 (p : Nat) (v1 : Int32) (v3 : Int32) (v4 : Int32) (h : jH) : Option ((Int32 × Int32 × Int32 × jH) ⊕ (Int32 × Int32 × jH)) :=
  fA_answerOfTest_l7_j54  p v1 v4 v3 v4 h
theorem kA_answerOfTest_l7_j51 {X : jX} {dd : Nat} {p d : Nat} {q : Nat → Nat} {Q : Option Value → jS → Prop} {v1 : Int32} {v3 : Int32} {v4 : Int32} {h : jH} (hP : jOK p d q)  (hd : 5 ≤ (dd + 1)) {z : (Int32 × Int32 × Int32 × jH) ⊕ (Int32 × Int32 × jH)} (K : fA_answerOfTest_l7_j51 p v1 v3 v4 h = some z) (HL : ∀ s : Int32 × Int32 × Int32 × jH, z = .inl s → jEx X (dd + 1) jc_175 7 [some (.ref 1), some (.int v1), some (.int s.1), some (.int s.2.1), some (.int s.2.2.1)] [] (176, jRf p d q, s.2.2.2) Q) (HE0 : ∀ x : Int32 × Int32 × jH, z = .inr x → jEx X (dd + 1) jc_175 60 [none, some (.int v1), some (.int x.1), some (.int x.2.1), none] [] (176, jRf p d q, x.2.2) Q) :
    jEx X (dd + 1) jc_175 51 [some (.ref 1), some (.int v1), none, some (.int v3), some (.int v4)] [] (176, jRf p d q, h) Q := by
  unfold fA_answerOfTest_l7_j51 at K
  refine jx_next (pc := 51) (pc' := 53) rfl rfl ?_
  refine jx_stin (pc := 53) (p2 := [some (.ref 1), some (.int v1), some (.int v4), some (.int v3), some (.int v4)]) rfl (jlt rfl) rfl ?_
  refine jx_le (pl' := [some (.ref 1), some (.int v1), some (.int v4), some (.int v3), some (.int v4)]) (jle_v (jle_v (jle_v (jle_v (jle_v jle_nil))))) ?_
  exact kA_answerOfTest_l7_j54 hP  hd K HL HE0
noncomputable def fA_answerOfTest_l7_b (p : Nat) (v1 : Int32) (v2 : Int32) (v3 : Int32) (v4 : Int32) (h : jH) : Option ((Int32 × Int32 × Int32 × jH) ⊕ (Int32 × Int32 × jH)) :=
  (if v4 < (h.1 p 0) then
  (Option.bind (fPy_valueFor p 8 v4 h) (fun (z3 : Int32 × jH) =>
  (if z3.1 = 0 then
  fA_answerOfTest_l7_j54  p v1 v2 v3 v4 z3.2
  else
  (if v1 = 1 then
  fA_answerOfTest_l7_j51  p v1 (v3 + 1) v4 z3.2
  else
  (if v2 = (-1) then
  fA_answerOfTest_l7_j51  p v1 (v3 + 1) v4 z3.2
  else
  fA_answerOfTest_l7_j54  p v1 v2 (v3 + 1) v4 z3.2)))))
  else
  some (.inr (v2, v3, h)))
noncomputable def fA_answerOfTest_l7 (p : Nat) (v1 : Int32) : (Int32 × Int32 × Int32 × jH) → Option ((Int32 × Int32 × Int32 × jH) ⊕ (Int32 × Int32 × jH)) :=
  fun (s : Int32 × Int32 × Int32 × jH) => fA_answerOfTest_l7_b p v1 s.1 s.2.1 s.2.2.1 s.2.2.2
theorem kA_answerOfTest_l7_b {X : jX} {dd : Nat} {p d : Nat} {q : Nat → Nat} {Q : Option Value → jS → Prop} {v1 : Int32} {v2 : Int32} {v3 : Int32} {v4 : Int32} {h : jH} (hP : jOK p d q)  (hd : 5 ≤ (dd + 1)) {z : (Int32 × Int32 × Int32 × jH) ⊕ (Int32 × Int32 × jH)} (K : fA_answerOfTest_l7_b p v1 v2 v3 v4 h = some z) (HL : ∀ s : Int32 × Int32 × Int32 × jH, z = .inl s → jEx X (dd + 1) jc_175 7 [some (.ref 1), some (.int v1), some (.int s.1), some (.int s.2.1), some (.int s.2.2.1)] [] (176, jRf p d q, s.2.2.2) Q) (HE0 : ∀ x : Int32 × Int32 × jH, z = .inr x → jEx X (dd + 1) jc_175 60 [none, some (.int v1), some (.int x.1), some (.int x.2.1), none] [] (176, jRf p d q, x.2.2) Q) :
    jEx X (dd + 1) jc_175 7 [some (.ref 1), some (.int v1), some (.int v2), some (.int v3), some (.int v4)] [] (176, jRf p d q, h) Q := by
  unfold fA_answerOfTest_l7_b at K
  refine jx_next (pc := 7) (pc' := 9) rfl rfl ?_
  refine jx_next (pc := 9) (pc' := 10) rfl rfl ?_
  refine jx_getr2 (pc := 10) rfl jko_1 jr_1_8 ?_
  refine jx_callv (pc := 13) (o := 79) (rest := [.int v4]) rfl ⟨by decide, by decide⟩ rfl jko_79 (Nat.le_of_ble_eq_true rfl) ?_
  refine kPy_plan hP (by omega) rfl ?_
  refine jx_geti (pc := 16) rfl hP.1 ?_
  refine jx_icge (pc := 19) rfl (fun hc2 => ?_) (fun hc2 => ?_)
  · replace K := (if_pos hc2).symm.trans K
    refine jx_next (pc := 22) (pc' := 23) rfl rfl ?_
    refine jx_getr2 (pc := 23) rfl jko_1 jr_1_8 ?_
    refine jx_next (pc := 26) (pc' := 27) rfl rfl ?_
    refine jx_getr2 (pc := 27) rfl jko_1 jr_1_4 ?_
    refine jx_next (pc := 30) (pc' := 32) rfl rfl ?_
    refine jx_callv (pc := 32) (o := 79) (rest := []) rfl ⟨by decide, by decide⟩ rfl jko_79 (Nat.le_of_ble_eq_true rfl) ?_
    obtain ⟨z3, hz_z3, K⟩ := Option.bind_eq_some_iff.mp K
    refine kPy_valueFor hP jko_8 (by omega) hz_z3 ?_
    refine jx_ifeq (pc := 35) rfl (fun hc4 => ?_) (fun hc4 => ?_)
    · replace K := (if_pos hc4).symm.trans K
      refine jx_le (pl' := [some (.ref 1), some (.int v1), some (.int v2), some (.int v3), some (.int v4)]) (jle_v (jle_v (jle_v (jle_v (jle_v jle_nil))))) ?_
      exact kA_answerOfTest_l7_j54 hP  hd K HL HE0
    · replace K := (if_neg hc4).symm.trans K
      refine jx_inc (pc := 38) (x := v3) (p2 := [some (.ref 1), some (.int v1), some (.int v2), some (.int (v3 + 1)), some (.int v4)]) rfl rfl (jlt rfl) rfl ?_
      refine jx_next (pc := 41) (pc' := 42) rfl rfl ?_
      refine jx_next (pc := 42) (pc' := 43) rfl rfl ?_
      refine jx_iceq (pc := 43) rfl (fun hc5 => ?_) (fun hc5 => ?_)
      · replace K := (if_pos hc5).symm.trans K
        refine jx_le (pl' := [some (.ref 1), some (.int v1), none, some (.int (v3 + 1)), some (.int v4)]) (jle_v (jle_v (jle_n (jle_v (jle_v jle_nil))))) ?_
        exact kA_answerOfTest_l7_j51 hP  hd K HL HE0
      · replace K := (if_neg hc5).symm.trans K
        refine jx_next (pc := 46) (pc' := 47) rfl rfl ?_
        refine jx_next (pc := 47) (pc' := 48) rfl rfl ?_
        refine jx_icne (pc := 48) rfl (fun hc6 => ?_) (fun hc6 => ?_)
        · replace K := (if_pos hc6).symm.trans K
          refine jx_le (pl' := [some (.ref 1), some (.int v1), none, some (.int (v3 + 1)), some (.int v4)]) (jle_v (jle_v (jle_n (jle_v (jle_v jle_nil))))) ?_
          exact kA_answerOfTest_l7_j51 hP  hd K HL HE0
        · replace K := (if_neg hc6).symm.trans K
          refine jx_le (pl' := [some (.ref 1), some (.int v1), some (.int v2), some (.int (v3 + 1)), some (.int v4)]) (jle_v (jle_v (jle_v (jle_v (jle_v jle_nil))))) ?_
          exact kA_answerOfTest_l7_j54 hP  hd K HL HE0
  · replace K := (if_neg hc2).symm.trans K
    obtain rfl := Option.some.inj K
    refine jx_le (pl' := [none, some (.int v1), some (.int v2), some (.int v3), none]) (jle_n (jle_v (jle_v (jle_v (jle_n jle_nil))))) ?_
    exact HE0 _ rfl
theorem kA_answerOfTest_l7_w {X : jX} {dd : Nat} {p d : Nat} {q : Nat → Nat} {Q : Option Value → jS → Prop} {v1 : Int32} (hP : jOK p d q)  (hd : 5 ≤ (dd + 1)) {s : Int32 × Int32 × Int32 × jH} {x : Int32 × Int32 × jH} (K : jlim (fA_answerOfTest_l7 p v1) s = some x) (HE : jEx X (dd + 1) jc_175 60 [none, some (.int v1), some (.int x.1), some (.int x.2.1), none] [] (176, jRf p d q, x.2.2) Q) :
    jEx X (dd + 1) jc_175 7 [some (.ref 1), some (.int v1), some (.int s.1), some (.int s.2.1), some (.int s.2.2.1)] [] (176, jRf p d q, s.2.2.2) Q := by
  refine jlim_ok (G := fun s : Int32 × Int32 × Int32 × jH => jEx X (dd + 1) jc_175 7 [some (.ref 1), some (.int v1), some (.int s.1), some (.int s.2.1), some (.int s.2.2.1)] [] (176, jRf p d q, s.2.2.2) Q) (GX := fun x : Int32 × Int32 × jH => jEx X (dd + 1) jc_175 60 [none, some (.int v1), some (.int x.1), some (.int x.2.1), none] [] (176, jRf p d q, x.2.2) Q) (fun s z hz HL HE => ?_) K HE
  exact kA_answerOfTest_l7_b hP  hd hz HL HE
/-- AndGuest.answerOfTest(I)J -/
noncomputable def fA_answerOfTest (p : Nat) (v1 : Int32) (h : jH) : Option (Int64 × jH) :=
  (Option.bind (jlim (fA_answerOfTest_l7  p v1) ((-1), 0, 0, h)) (fun (x7 : Int32 × Int32 × jH) =>
  (if v1 = 2 then
  some (x7.2.1.toInt64, x7.2.2)
  else
  some (x7.1.toInt64, x7.2.2))))
theorem kA_answerOfTest {X : jX} {dd : Nat} {p d : Nat} {q : Nat → Nat} {Q : Option Value → jS → Prop} {v1 : Int32} {h : jH} (hP : jOK p d q)  (hd : 5 ≤ dd) {z : Int64 × jH} (K : fA_answerOfTest p v1 h = some z) (HQ : Q (some (.long z.1)) (176, jRf p d q, z.2)) :
    jCa X dd 175 [.ref 1, .int v1] (176, jRf p d q, h) Q := by
  obtain ⟨dd, rfl⟩ : ∃ d9, dd = d9 + 1 := ⟨dd - 1, by omega⟩
  unfold fA_answerOfTest at K
  refine jCa_of (es := jc_175) (pl := [some (.ref 1), some (.int v1), none, none, none]) (M := jm_175) rfl rfl rfl rfl ?_
  refine jx_next (pc := 0) (pc' := 1) rfl rfl ?_
  refine jx_stin (pc := 1) (p2 := [some (.ref 1), some (.int v1), some (.int (-1)), none, none]) rfl (jlt rfl) rfl ?_
  refine jx_next (pc := 2) (pc' := 3) rfl rfl ?_
  refine jx_stin (pc := 3) (p2 := [some (.ref 1), some (.int v1), some (.int (-1)), some (.int 0), none]) rfl (jlt rfl) rfl ?_
  refine jx_next (pc := 4) (pc' := 5) rfl rfl ?_
  refine jx_sti (pc := 5) (p2 := [some (.ref 1), some (.int v1), some (.int (-1)), some (.int 0), some (.int 0)]) rfl (jlt rfl) rfl ?_
  refine jx_le (pl' := [some (.ref 1), some (.int v1), some (.int (-1)), some (.int 0), some (.int 0)]) (jle_v (jle_v (jle_v (jle_v (jle_v jle_nil))))) ?_
  obtain ⟨x7, hz_x7, K⟩ := Option.bind_eq_some_iff.mp K
  refine kA_answerOfTest_l7_w hP  hd hz_x7 ?_
  refine jx_next (pc := 60) (pc' := 61) rfl rfl ?_
  refine jx_next (pc := 61) (pc' := 62) rfl rfl ?_
  refine jx_icne (pc := 62) rfl (fun hc8 => ?_) (fun hc8 => ?_)
  · replace K := (if_pos hc8).symm.trans K
    refine jx_next (pc := 65) (pc' := 66) rfl rfl ?_
    refine jx_next (pc := 66) (pc' := 67) rfl rfl ?_
    refine jx_next (pc := 67) (pc' := 72) rfl rfl ?_
    obtain rfl := Option.some.inj K
    exact jx_ret (pc := 72) rfl rfl HQ
  · replace K := (if_neg hc8).symm.trans K
    refine jx_next (pc := 70) (pc' := 71) rfl rfl ?_
    refine jx_next (pc := 71) (pc' := 72) rfl rfl ?_
    obtain rfl := Option.some.inj K
    exact jx_ret (pc := 72) rfl rfl HQ
noncomputable def fA_answerOfSum_l5_j81 (p : Nat) (v1 : Int32) (v2 : Int64) (v4 : Int32) (h : jH) : Option ((Int64 × Int32 × jH) ⊕ (Int64 × jH)) :=
  some (.inl (v2, v4 + 1, h))
theorem kA_answerOfSum_l5_j81 {X : jX} {dd : Nat} {p d : Nat} {q : Nat → Nat} {Q : Option Value → jS → Prop} {v1 : Int32} {v2 : Int64} {v4 : Int32} {h : jH} (hP : jOK p d q)  (hd : 5 ≤ (dd + 1)) {z : (Int64 × Int32 × jH) ⊕ (Int64 × jH)} (K : fA_answerOfSum_l5_j81 p v1 v2 v4 h = some z) (HL : ∀ s : Int64 × Int32 × jH, z = .inl s → jEx X (dd + 1) jc_177 5 [some (.ref 1), some (.int v1), some (.long s.1), none, some (.int s.2.1), none, none] [] (176, jRf p d q, s.2.2) Q) (HE0 : ∀ x : Int64 × jH, z = .inr x → jEx X (dd + 1) jc_177 87 [none, none, some (.long x.1), none, none, none, none] [] (176, jRf p d q, x.2) Q) :
    jEx X (dd + 1) jc_177 81 [some (.ref 1), some (.int v1), some (.long v2), none, some (.int v4), none, none] [] (176, jRf p d q, h) Q := by
  unfold fA_answerOfSum_l5_j81 at K
  refine jx_inc (pc := 81) (x := v4) (p2 := [some (.ref 1), some (.int v1), some (.long v2), none, some (.int (v4 + 1)), none, none]) rfl rfl (jlt rfl) rfl ?_
  refine jx_next (pc := 84) (pc' := 5) rfl rfl ?_
  obtain rfl := Option.some.inj K
  refine jx_le (pl' := [some (.ref 1), some (.int v1), some (.long v2), none, some (.int (v4 + 1)), none, none]) (jle_v (jle_v (jle_v (jle_n (jle_v (jle_n (jle_n jle_nil))))))) ?_
  exact HL (v2, v4 + 1, h) rfl
noncomputable def fA_answerOfSum_l5_j80 (p : Nat) (v1 : Int32) (v4 : Int32) (s0 : Int64) (h : jH) : Option ((Int64 × Int32 × jH) ⊕ (Int64 × jH)) :=
  fA_answerOfSum_l5_j81  p v1 s0 v4 h
theorem kA_answerOfSum_l5_j80 {X : jX} {dd : Nat} {p d : Nat} {q : Nat → Nat} {Q : Option Value → jS → Prop} {v1 : Int32} {v4 : Int32} {s0 : Int64} {h : jH} (hP : jOK p d q)  (hd : 5 ≤ (dd + 1)) {z : (Int64 × Int32 × jH) ⊕ (Int64 × jH)} (K : fA_answerOfSum_l5_j80 p v1 v4 s0 h = some z) (HL : ∀ s : Int64 × Int32 × jH, z = .inl s → jEx X (dd + 1) jc_177 5 [some (.ref 1), some (.int v1), some (.long s.1), none, some (.int s.2.1), none, none] [] (176, jRf p d q, s.2.2) Q) (HE0 : ∀ x : Int64 × jH, z = .inr x → jEx X (dd + 1) jc_177 87 [none, none, some (.long x.1), none, none, none, none] [] (176, jRf p d q, x.2) Q) :
    jEx X (dd + 1) jc_177 80 [some (.ref 1), some (.int v1), none, none, some (.int v4), none, none] [.long s0] (176, jRf p d q, h) Q := by
  unfold fA_answerOfSum_l5_j80 at K
  refine jx_stln (pc := 80) (p2 := [some (.ref 1), some (.int v1), some (.long s0), none, some (.int v4), none, none]) rfl (jlt rfl) rfl ?_
  refine jx_le (pl' := [some (.ref 1), some (.int v1), some (.long s0), none, some (.int v4), none, none]) (jle_v (jle_v (jle_v (jle_n (jle_v (jle_n (jle_n jle_nil))))))) ?_
  exact kA_answerOfSum_l5_j81 hP  hd K HL HE0
noncomputable def fA_answerOfSum_l5_b (p : Nat) (v1 : Int32) (v2 : Int64) (v4 : Int32) (h : jH) : Option ((Int64 × Int32 × jH) ⊕ (Int64 × jH)) :=
  (if v4 < (h.1 p 0) then
  (Option.bind (fPy_valueFor p 8 v4 h) (fun (z3 : Int32 × jH) =>
  (if v1 = 3 then
  fA_answerOfSum_l5_j81  p v1 (v2 + z3.1.toInt64) v4 z3.2
  else
  (if v4 = 0 then
  fA_answerOfSum_l5_j81  p v1 z3.1.toInt64 v4 z3.2
  else
  (if v1 = 4 then
  fA_answerOfSum_l5_j80  p v1 v4 (fMt_maxJ v2 z3.1.toInt64) z3.2
  else
  fA_answerOfSum_l5_j80  p v1 v4 (fMt_minJ v2 z3.1.toInt64) z3.2)))))
  else
  some (.inr (v2, h)))
noncomputable def fA_answerOfSum_l5 (p : Nat) (v1 : Int32) : (Int64 × Int32 × jH) → Option ((Int64 × Int32 × jH) ⊕ (Int64 × jH)) :=
  fun (s : Int64 × Int32 × jH) => fA_answerOfSum_l5_b p v1 s.1 s.2.1 s.2.2
theorem kA_answerOfSum_l5_b {X : jX} {dd : Nat} {p d : Nat} {q : Nat → Nat} {Q : Option Value → jS → Prop} {v1 : Int32} {v2 : Int64} {v4 : Int32} {h : jH} (hP : jOK p d q)  (hd : 5 ≤ (dd + 1)) {z : (Int64 × Int32 × jH) ⊕ (Int64 × jH)} (K : fA_answerOfSum_l5_b p v1 v2 v4 h = some z) (HL : ∀ s : Int64 × Int32 × jH, z = .inl s → jEx X (dd + 1) jc_177 5 [some (.ref 1), some (.int v1), some (.long s.1), none, some (.int s.2.1), none, none] [] (176, jRf p d q, s.2.2) Q) (HE0 : ∀ x : Int64 × jH, z = .inr x → jEx X (dd + 1) jc_177 87 [none, none, some (.long x.1), none, none, none, none] [] (176, jRf p d q, x.2) Q) :
    jEx X (dd + 1) jc_177 5 [some (.ref 1), some (.int v1), some (.long v2), none, some (.int v4), none, none] [] (176, jRf p d q, h) Q := by
  unfold fA_answerOfSum_l5_b at K
  refine jx_next (pc := 5) (pc' := 7) rfl rfl ?_
  refine jx_next (pc := 7) (pc' := 8) rfl rfl ?_
  refine jx_getr2 (pc := 8) rfl jko_1 jr_1_8 ?_
  refine jx_callv (pc := 11) (o := 79) (rest := [.int v4]) rfl ⟨by decide, by decide⟩ rfl jko_79 (Nat.le_of_ble_eq_true rfl) ?_
  refine kPy_plan hP (by omega) rfl ?_
  refine jx_geti (pc := 14) rfl hP.1 ?_
  refine jx_icge (pc := 17) rfl (fun hc2 => ?_) (fun hc2 => ?_)
  · replace K := (if_pos hc2).symm.trans K
    refine jx_next (pc := 20) (pc' := 21) rfl rfl ?_
    refine jx_getr2 (pc := 21) rfl jko_1 jr_1_8 ?_
    refine jx_next (pc := 24) (pc' := 25) rfl rfl ?_
    refine jx_getr2 (pc := 25) rfl jko_1 jr_1_4 ?_
    refine jx_next (pc := 28) (pc' := 30) rfl rfl ?_
    refine jx_callv (pc := 30) (o := 79) (rest := []) rfl ⟨by decide, by decide⟩ rfl jko_79 (Nat.le_of_ble_eq_true rfl) ?_
    obtain ⟨z3, hz_z3, K⟩ := Option.bind_eq_some_iff.mp K
    refine kPy_valueFor hP jko_8 (by omega) hz_z3 ?_
    refine jx_next (pc := 33) (pc' := 34) rfl rfl ?_
    refine jx_stl (pc := 34) (p2 := [some (.ref 1), some (.int v1), some (.long v2), none, some (.int v4), some (.long z3.1.toInt64), none]) rfl (jlt rfl) rfl ?_
    refine jx_next (pc := 36) (pc' := 37) rfl rfl ?_
    refine jx_next (pc := 37) (pc' := 38) rfl rfl ?_
    refine jx_icne (pc := 38) rfl (fun hc4 => ?_) (fun hc4 => ?_)
    · replace K := (if_pos hc4).symm.trans K
      refine jx_next (pc := 41) (pc' := 42) rfl rfl ?_
      refine jx_next (pc := 42) (pc' := 44) rfl rfl ?_
      refine jx_next (pc := 44) (pc' := 45) rfl rfl ?_
      refine jx_stln (pc := 45) (p2 := [some (.ref 1), some (.int v1), some (.long (v2 + z3.1.toInt64)), none, some (.int v4), some (.long z3.1.toInt64), none]) rfl (jlt rfl) rfl ?_
      refine jx_next (pc := 46) (pc' := 81) rfl rfl ?_
      refine jx_le (pl' := [some (.ref 1), some (.int v1), some (.long (v2 + z3.1.toInt64)), none, some (.int v4), none, none]) (jle_v (jle_v (jle_v (jle_n (jle_v (jle_n (jle_n jle_nil))))))) ?_
      exact kA_answerOfSum_l5_j81 hP  hd K HL HE0
    · replace K := (if_neg hc4).symm.trans K
      refine jx_next (pc := 49) (pc' := 51) rfl rfl ?_
      refine jx_ifne (pc := 51) rfl (fun hc5 => ?_) (fun hc5 => ?_)
      · replace K := (if_pos hc5).symm.trans K
        refine jx_next (pc := 54) (pc' := 56) rfl rfl ?_
        refine jx_stln (pc := 56) (p2 := [some (.ref 1), some (.int v1), some (.long z3.1.toInt64), none, some (.int v4), some (.long z3.1.toInt64), none]) rfl (jlt rfl) rfl ?_
        refine jx_next (pc := 57) (pc' := 81) rfl rfl ?_
        refine jx_le (pl' := [some (.ref 1), some (.int v1), some (.long z3.1.toInt64), none, some (.int v4), none, none]) (jle_v (jle_v (jle_v (jle_n (jle_v (jle_n (jle_n jle_nil))))))) ?_
        exact kA_answerOfSum_l5_j81 hP  hd K HL HE0
      · replace K := (if_neg hc5).symm.trans K
        refine jx_next (pc := 60) (pc' := 61) rfl rfl ?_
        refine jx_next (pc := 61) (pc' := 62) rfl rfl ?_
        refine jx_icne (pc := 62) rfl (fun hc6 => ?_) (fun hc6 => ?_)
        · replace K := (if_pos hc6).symm.trans K
          refine jx_next (pc := 65) (pc' := 66) rfl rfl ?_
          refine jx_next (pc := 66) (pc' := 68) rfl rfl ?_
          refine jx_calls (pc := 68) rfl (Nat.le_of_ble_eq_true rfl) (Nat.le_of_ble_eq_true rfl) ?_
          refine kMt_maxJ  (by omega) rfl ?_
          refine jx_next (pc := 71) (pc' := 80) rfl rfl ?_
          refine jx_le (pl' := [some (.ref 1), some (.int v1), none, none, some (.int v4), none, none]) (jle_v (jle_v (jle_n (jle_n (jle_v (jle_n (jle_n jle_nil))))))) ?_
          exact kA_answerOfSum_l5_j80 hP  hd K HL HE0
        · replace K := (if_neg hc6).symm.trans K
          refine jx_next (pc := 74) (pc' := 75) rfl rfl ?_
          refine jx_next (pc := 75) (pc' := 77) rfl rfl ?_
          refine jx_calls (pc := 77) rfl (Nat.le_of_ble_eq_true rfl) (Nat.le_of_ble_eq_true rfl) ?_
          refine kMt_minJ  (by omega) rfl ?_
          refine jx_le (pl' := [some (.ref 1), some (.int v1), none, none, some (.int v4), none, none]) (jle_v (jle_v (jle_n (jle_n (jle_v (jle_n (jle_n jle_nil))))))) ?_
          exact kA_answerOfSum_l5_j80 hP  hd K HL HE0
  · replace K := (if_neg hc2).symm.trans K
    obtain rfl := Option.some.inj K
    refine jx_le (pl' := [none, none, some (.long v2), none, none, none, none]) (jle_n (jle_n (jle_v (jle_n (jle_n (jle_n (jle_n jle_nil))))))) ?_
    exact HE0 _ rfl
theorem kA_answerOfSum_l5_w {X : jX} {dd : Nat} {p d : Nat} {q : Nat → Nat} {Q : Option Value → jS → Prop} {v1 : Int32} (hP : jOK p d q)  (hd : 5 ≤ (dd + 1)) {s : Int64 × Int32 × jH} {x : Int64 × jH} (K : jlim (fA_answerOfSum_l5 p v1) s = some x) (HE : jEx X (dd + 1) jc_177 87 [none, none, some (.long x.1), none, none, none, none] [] (176, jRf p d q, x.2) Q) :
    jEx X (dd + 1) jc_177 5 [some (.ref 1), some (.int v1), some (.long s.1), none, some (.int s.2.1), none, none] [] (176, jRf p d q, s.2.2) Q := by
  refine jlim_ok (G := fun s : Int64 × Int32 × jH => jEx X (dd + 1) jc_177 5 [some (.ref 1), some (.int v1), some (.long s.1), none, some (.int s.2.1), none, none] [] (176, jRf p d q, s.2.2) Q) (GX := fun x : Int64 × jH => jEx X (dd + 1) jc_177 87 [none, none, some (.long x.1), none, none, none, none] [] (176, jRf p d q, x.2) Q) (fun s z hz HL HE => ?_) K HE
  exact kA_answerOfSum_l5_b hP  hd hz HL HE
/-- AndGuest.answerOfSum(I)J -/
noncomputable def fA_answerOfSum (p : Nat) (v1 : Int32) (h : jH) : Option (Int64 × jH) :=
  (Option.bind (jlim (fA_answerOfSum_l5  p v1) (0, 0, h)) (fun (x9 : Int64 × jH) =>
  some (x9.1, x9.2)))
theorem kA_answerOfSum {X : jX} {dd : Nat} {p d : Nat} {q : Nat → Nat} {Q : Option Value → jS → Prop} {v1 : Int32} {h : jH} (hP : jOK p d q)  (hd : 5 ≤ dd) {z : Int64 × jH} (K : fA_answerOfSum p v1 h = some z) (HQ : Q (some (.long z.1)) (176, jRf p d q, z.2)) :
    jCa X dd 177 [.ref 1, .int v1] (176, jRf p d q, h) Q := by
  obtain ⟨dd, rfl⟩ : ∃ d9, dd = d9 + 1 := ⟨dd - 1, by omega⟩
  unfold fA_answerOfSum at K
  refine jCa_of (es := jc_177) (pl := [some (.ref 1), some (.int v1), none, none, none, none, none]) (M := jm_177) rfl rfl rfl rfl ?_
  refine jx_next (pc := 0) (pc' := 1) rfl rfl ?_
  refine jx_stln (pc := 1) (p2 := [some (.ref 1), some (.int v1), some (.long 0), none, none, none, none]) rfl (jlt rfl) rfl ?_
  refine jx_next (pc := 2) (pc' := 3) rfl rfl ?_
  refine jx_sti (pc := 3) (p2 := [some (.ref 1), some (.int v1), some (.long 0), none, some (.int 0), none, none]) rfl (jlt rfl) rfl ?_
  refine jx_le (pl' := [some (.ref 1), some (.int v1), some (.long 0), none, some (.int 0), none, none]) (jle_v (jle_v (jle_v (jle_n (jle_v (jle_n (jle_n jle_nil))))))) ?_
  obtain ⟨x9, hz_x9, K⟩ := Option.bind_eq_some_iff.mp K
  refine kA_answerOfSum_l5_w hP  hd hz_x9 ?_
  refine jx_next (pc := 87) (pc' := 88) rfl rfl ?_
  obtain rfl := Option.some.inj K
  exact jx_ret (pc := 88) rfl rfl HQ
noncomputable def fTp_checkOf_l5_b (o : Nat) (v1 : Int32) (v2 : Int32) (v3 : Int32) (h : jH) : Option ((Int32 × Int32) ⊕ (Int32)) :=
  (if v3 < v1 then
  (if v3 < (h.1 o 1) then
  (Option.bind (fTp_byteAt o v3 h) (fun (z3 : Int32) =>
  some (.inl (((3 * v2) + z3) - ((3 * v2) + z3) / 251 * 251, v3 + 1))))
  else
  some (.inr v2))
  else
  some (.inr v2))
noncomputable def fTp_checkOf_l5 (o : Nat) (v1 : Int32) (h : jH) : (Int32 × Int32) → Option ((Int32 × Int32) ⊕ (Int32)) :=
  fun (s : Int32 × Int32) => fTp_checkOf_l5_b o v1 s.1 s.2 h
theorem kTp_checkOf_l5_b {X : jX} {dd : Nat} {p d : Nat} {q : Nat → Nat} {Q : Option Value → jS → Prop} {o : Nat} {v1 : Int32} {v2 : Int32} {v3 : Int32} {h : jH} (hP : jOK p d q) (ho : jcl 176 o = 2) (hd : 1 ≤ (dd + 1)) {z : (Int32 × Int32) ⊕ (Int32)} (K : fTp_checkOf_l5_b o v1 v2 v3 h = some z) (HL : ∀ s : Int32 × Int32, z = .inl s → jEx X (dd + 1) jc_180 5 [some (.ref o), some (.int v1), some (.int s.1), some (.int s.2)] [] (176, jRf p d q, h) Q) (HE0 : ∀ x : Int32, z = .inr x → jEx X (dd + 1) jc_180 38 [none, none, some (.int x), none] [] (176, jRf p d q, h) Q) :
    jEx X (dd + 1) jc_180 5 [some (.ref o), some (.int v1), some (.int v2), some (.int v3)] [] (176, jRf p d q, h) Q := by
  unfold fTp_checkOf_l5_b at K
  refine jx_next (pc := 5) (pc' := 6) rfl rfl ?_
  refine jx_next (pc := 6) (pc' := 7) rfl rfl ?_
  refine jx_icge (pc := 7) rfl (fun hc1 => ?_) (fun hc1 => ?_)
  · replace K := (if_pos hc1).symm.trans K
    refine jx_next (pc := 10) (pc' := 11) rfl rfl ?_
    refine jx_next (pc := 11) (pc' := 12) rfl rfl ?_
    refine jx_geti (pc := 12) rfl ho ?_
    refine jx_icge (pc := 15) rfl (fun hc2 => ?_) (fun hc2 => ?_)
    · replace K := (if_pos hc2).symm.trans K
      refine jx_next (pc := 18) (pc' := 19) rfl rfl ?_
      refine jx_next (pc := 19) (pc' := 20) rfl rfl ?_
      refine jx_next (pc := 20) (pc' := 21) rfl rfl ?_
      refine jx_next (pc := 21) (pc' := 22) rfl rfl ?_
      refine jx_next (pc := 22) (pc' := 23) rfl rfl ?_
      refine jx_callv (pc := 23) (o := o) (rest := [.int (3 * v2)]) rfl ⟨by decide, by decide⟩ rfl ho (Nat.le_of_ble_eq_true rfl) ?_
      obtain ⟨z3, hz_z3, K⟩ := Option.bind_eq_some_iff.mp K
      refine kTp_byteAt hP ho (by omega) hz_z3 ?_
      refine jx_next (pc := 26) (pc' := 27) rfl rfl ?_
      refine jx_next (pc := 27) (pc' := 30) rfl rfl ?_
      refine jx_irem (pc := 30) rfl (by decide) ?_
      refine jx_stin (pc := 31) (p2 := [some (.ref o), some (.int v1), some (.int (((3 * v2) + z3) - ((3 * v2) + z3) / 251 * 251)), some (.int v3)]) rfl (jlt rfl) rfl ?_
      refine jx_inc (pc := 32) (x := v3) (p2 := [some (.ref o), some (.int v1), some (.int (((3 * v2) + z3) - ((3 * v2) + z3) / 251 * 251)), some (.int (v3 + 1))]) rfl rfl (jlt rfl) rfl ?_
      refine jx_next (pc := 35) (pc' := 5) rfl rfl ?_
      obtain rfl := Option.some.inj K
      refine jx_le (pl' := [some (.ref o), some (.int v1), some (.int (((3 * v2) + z3) - ((3 * v2) + z3) / 251 * 251)), some (.int (v3 + 1))]) (jle_v (jle_v (jle_v (jle_v jle_nil)))) ?_
      exact HL (((3 * v2) + z3) - ((3 * v2) + z3) / 251 * 251, v3 + 1) rfl
    · replace K := (if_neg hc2).symm.trans K
      obtain rfl := Option.some.inj K
      refine jx_le (pl' := [none, none, some (.int v2), none]) (jle_n (jle_n (jle_v (jle_n jle_nil)))) ?_
      exact HE0 _ rfl
  · replace K := (if_neg hc1).symm.trans K
    obtain rfl := Option.some.inj K
    refine jx_le (pl' := [none, none, some (.int v2), none]) (jle_n (jle_n (jle_v (jle_n jle_nil)))) ?_
    exact HE0 _ rfl
theorem kTp_checkOf_l5_w {X : jX} {dd : Nat} {p d : Nat} {q : Nat → Nat} {Q : Option Value → jS → Prop} {o : Nat} {v1 : Int32} {h : jH} (hP : jOK p d q) (ho : jcl 176 o = 2) (hd : 1 ≤ (dd + 1)) {s : Int32 × Int32} {x : Int32} (K : jlim (fTp_checkOf_l5 o v1 h) s = some x) (HE : jEx X (dd + 1) jc_180 38 [none, none, some (.int x), none] [] (176, jRf p d q, h) Q) :
    jEx X (dd + 1) jc_180 5 [some (.ref o), some (.int v1), some (.int s.1), some (.int s.2)] [] (176, jRf p d q, h) Q := by
  refine jlim_ok (G := fun s : Int32 × Int32 => jEx X (dd + 1) jc_180 5 [some (.ref o), some (.int v1), some (.int s.1), some (.int s.2)] [] (176, jRf p d q, h) Q) (GX := fun x : Int32 => jEx X (dd + 1) jc_180 38 [none, none, some (.int x), none] [] (176, jRf p d q, h) Q) (fun s z hz HL HE => ?_) K HE
  exact kTp_checkOf_l5_b hP ho hd hz HL HE
/-- AndGuest$Tape.checkOf(I)I -/
noncomputable def fTp_checkOf (o : Nat) (v1 : Int32) (h : jH) : Option Int32 :=
  (Option.bind (jlim (fTp_checkOf_l5  o v1 h) (67, 0)) (fun (x4 : Int32) =>
  some (x4 : Int32)))
theorem kTp_checkOf {X : jX} {dd : Nat} {p d : Nat} {q : Nat → Nat} {Q : Option Value → jS → Prop} {o : Nat} {v1 : Int32} {h : jH} (hP : jOK p d q) (ho : jcl 176 o = 2) (hd : 1 ≤ dd) {z : Int32} (K : fTp_checkOf o v1 h = some z) (HQ : Q (some (.int z)) (176, jRf p d q, h)) :
    jCa X dd 180 [.ref o, .int v1] (176, jRf p d q, h) Q := by
  obtain ⟨dd, rfl⟩ : ∃ d9, dd = d9 + 1 := ⟨dd - 1, by omega⟩
  unfold fTp_checkOf at K
  refine jCa_of (es := jc_180) (pl := [some (.ref o), some (.int v1), none, none]) (M := jm_180) rfl rfl rfl rfl ?_
  refine jx_next (pc := 0) (pc' := 2) rfl rfl ?_
  refine jx_stin (pc := 2) (p2 := [some (.ref o), some (.int v1), some (.int 67), none]) rfl (jlt rfl) rfl ?_
  refine jx_next (pc := 3) (pc' := 4) rfl rfl ?_
  refine jx_stin (pc := 4) (p2 := [some (.ref o), some (.int v1), some (.int 67), some (.int 0)]) rfl (jlt rfl) rfl ?_
  refine jx_le (pl' := [some (.ref o), some (.int v1), some (.int 67), some (.int 0)]) (jle_v (jle_v (jle_v (jle_v jle_nil)))) ?_
  obtain ⟨x4, hz_x4, K⟩ := Option.bind_eq_some_iff.mp K
  refine kTp_checkOf_l5_w hP ho hd hz_x4 ?_
  refine jx_next (pc := 38) (pc' := 39) rfl rfl ?_
  obtain rfl := Option.some.inj K
  exact jx_iret (pc := 39) rfl HQ
noncomputable def fSd_writeImage_l31_b (o : Nat) (v1 : Nat) (v2 : Int32) (v3 : Int32) (h : jH) : Option ((Int32 × jH) ⊕ (jH)) :=
  (if v3 < v2 then
  (if v3 < 8 then
  (if jin v3 8 then
  (Option.bind (fTp_put v1 (h.1 (o + 1) v3.toNatClampNeg) h) (fun (z7 : jH) =>
  (if jin v3 8 then
  (Option.bind (fTp_putPair v1 (z7.1 (o + 2) v3.toNatClampNeg) z7) (fun (z9 : jH) =>
  some (.inl (v3 + 1, z9))))
  else none)))
  else none)
  else
  some (.inr h))
  else
  some (.inr h))
noncomputable def fSd_writeImage_l31 (o : Nat) (v1 : Nat) (v2 : Int32) : (Int32 × jH) → Option ((Int32 × jH) ⊕ (jH)) :=
  fun (s : Int32 × jH) => fSd_writeImage_l31_b o v1 v2 s.1 s.2
theorem kSd_writeImage_l31_b {X : jX} {dd : Nat} {p d : Nat} {q : Nat → Nat} {Q : Option Value → jS → Prop} {o : Nat} {v1 : Nat} {v2 : Int32} {v3 : Int32} {h : jH} (hP : jOK p d q) (ho : jcl 176 o = 6) (hv1 : jcl 176 v1 = 2) (hd : 2 ≤ (dd + 1)) {z : (Int32 × jH) ⊕ (jH)} (K : fSd_writeImage_l31_b o v1 v2 v3 h = some z) (HL : ∀ s : Int32 × jH, z = .inl s → jEx X (dd + 1) jc_179 31 [some (.ref o), some (.ref v1), some (.int v2), some (.int s.1)] [] (176, jRf p d q, s.2) Q) (HE0 : ∀ x : jH, z = .inr x → jEx X (dd + 1) jc_179 68 [none, some (.ref v1), none, none] [] (176, jRf p d q, x) Q) :
    jEx X (dd + 1) jc_179 31 [some (.ref o), some (.ref v1), some (.int v2), some (.int v3)] [] (176, jRf p d q, h) Q := by
  unfold fSd_writeImage_l31_b at K
  refine jx_next (pc := 31) (pc' := 32) rfl rfl ?_
  refine jx_next (pc := 32) (pc' := 33) rfl rfl ?_
  refine jx_icge (pc := 33) rfl (fun hc4 => ?_) (fun hc4 => ?_)
  · replace K := (if_pos hc4).symm.trans K
    refine jx_next (pc := 36) (pc' := 37) rfl rfl ?_
    refine jx_next (pc := 37) (pc' := 39) rfl rfl ?_
    refine jx_icge (pc := 39) rfl (fun hc5 => ?_) (fun hc5 => ?_)
    · replace K := (if_pos hc5).symm.trans K
      refine jx_next (pc := 42) (pc' := 43) rfl rfl ?_
      refine jx_next (pc := 43) (pc' := 44) rfl rfl ?_
      refine jx_getr2 (pc := 44) rfl ho (jrm_6_2 ho) ?_
      refine jx_next (pc := 47) (pc' := 48) rfl rfl ?_
      obtain ⟨hg6, K⟩ := jguard K
      refine jx_iald2 (pc := 48) rfl (jkm_6_2 ho) (jnm_6_2 ho) hg6 ?_
      refine jx_callv (pc := 49) (o := v1) (rest := []) rfl ⟨by decide, by decide⟩ rfl hv1 (Nat.le_of_ble_eq_true rfl) ?_
      obtain ⟨z7, hz_z7, K⟩ := Option.bind_eq_some_iff.mp K
      refine kTp_put hP hv1 (by omega) hz_z7 ?_
      refine jx_next (pc := 52) (pc' := 53) rfl rfl ?_
      refine jx_next (pc := 53) (pc' := 54) rfl rfl ?_
      refine jx_getr2 (pc := 54) rfl ho (jrm_6_3 ho) ?_
      refine jx_next (pc := 57) (pc' := 58) rfl rfl ?_
      obtain ⟨hg8, K⟩ := jguard K
      refine jx_iald2 (pc := 58) rfl (jkm_6_3 ho) (jnm_6_3 ho) hg8 ?_
      refine jx_callv (pc := 59) (o := v1) (rest := []) rfl ⟨by decide, by decide⟩ rfl hv1 (Nat.le_of_ble_eq_true rfl) ?_
      obtain ⟨z9, hz_z9, K⟩ := Option.bind_eq_some_iff.mp K
      refine kTp_putPair hP hv1 (by omega) hz_z9 ?_
      refine jx_inc (pc := 62) (x := v3) (p2 := [some (.ref o), some (.ref v1), some (.int v2), some (.int (v3 + 1))]) rfl rfl (jlt rfl) rfl ?_
      refine jx_next (pc := 65) (pc' := 31) rfl rfl ?_
      obtain rfl := Option.some.inj K
      refine jx_le (pl' := [some (.ref o), some (.ref v1), some (.int v2), some (.int (v3 + 1))]) (jle_v (jle_v (jle_v (jle_v jle_nil)))) ?_
      exact HL (v3 + 1, z9) rfl
    · replace K := (if_neg hc5).symm.trans K
      obtain rfl := Option.some.inj K
      refine jx_le (pl' := [none, some (.ref v1), none, none]) (jle_n (jle_v (jle_n (jle_n jle_nil)))) ?_
      exact HE0 _ rfl
  · replace K := (if_neg hc4).symm.trans K
    obtain rfl := Option.some.inj K
    refine jx_le (pl' := [none, some (.ref v1), none, none]) (jle_n (jle_v (jle_n (jle_n jle_nil)))) ?_
    exact HE0 _ rfl
theorem kSd_writeImage_l31_w {X : jX} {dd : Nat} {p d : Nat} {q : Nat → Nat} {Q : Option Value → jS → Prop} {o : Nat} {v1 : Nat} {v2 : Int32} (hP : jOK p d q) (ho : jcl 176 o = 6) (hv1 : jcl 176 v1 = 2) (hd : 2 ≤ (dd + 1)) {s : Int32 × jH} {x : jH} (K : jlim (fSd_writeImage_l31 o v1 v2) s = some x) (HE : jEx X (dd + 1) jc_179 68 [none, some (.ref v1), none, none] [] (176, jRf p d q, x) Q) :
    jEx X (dd + 1) jc_179 31 [some (.ref o), some (.ref v1), some (.int v2), some (.int s.1)] [] (176, jRf p d q, s.2) Q := by
  refine jlim_ok (G := fun s : Int32 × jH => jEx X (dd + 1) jc_179 31 [some (.ref o), some (.ref v1), some (.int v2), some (.int s.1)] [] (176, jRf p d q, s.2) Q) (GX := fun x : jH => jEx X (dd + 1) jc_179 68 [none, some (.ref v1), none, none] [] (176, jRf p d q, x) Q) (fun s z hz HL HE => ?_) K HE
  exact kSd_writeImage_l31_b hP ho hv1 hd hz HL HE
noncomputable def fSd_writeImage_j26 (o : Nat) (v1 : Nat) (v2 : Int32) (s0 : Nat) (s1 : Int32) (h : jH) : Option jH :=
  (Option.bind (fTp_putPair s0 s1 h) (fun (z3 : jH) =>
  (Option.bind (jlim (fSd_writeImage_l31  o v1 v2) (0, z3)) (fun (x10 : jH) =>
  (Option.bind (fTp_checkOf v1 (fTp_size v1 x10) x10) (fun (z12 : Int32) =>
  (Option.bind (fTp_put v1 z12 x10) (fun (z13 : jH) =>
  some z13))))))))
theorem kSd_writeImage_j26 {X : jX} {dd : Nat} {p d : Nat} {q : Nat → Nat} {Q : Option Value → jS → Prop} {o : Nat} {v1 : Nat} {v2 : Int32} {s0 : Nat} {s1 : Int32} {h : jH} (hP : jOK p d q) (ho : jcl 176 o = 6) (hv1 : jcl 176 v1 = 2) (hs0 : jcl 176 s0 = 2) (hd : 2 ≤ (dd + 1)) {z : jH} (K : fSd_writeImage_j26 o v1 v2 s0 s1 h = some z) (HQ : Q none (176, jRf p d q, z)) :
    jEx X (dd + 1) jc_179 26 [some (.ref o), some (.ref v1), some (.int v2), none] [.int s1, .ref s0] (176, jRf p d q, h) Q := by
  unfold fSd_writeImage_j26 at K
  refine jx_callv (pc := 26) (o := s0) (rest := []) rfl ⟨by decide, by decide⟩ rfl hs0 (Nat.le_of_ble_eq_true rfl) ?_
  obtain ⟨z3, hz_z3, K⟩ := Option.bind_eq_some_iff.mp K
  refine kTp_putPair hP hs0 (by omega) hz_z3 ?_
  refine jx_next (pc := 29) (pc' := 30) rfl rfl ?_
  refine jx_stin (pc := 30) (p2 := [some (.ref o), some (.ref v1), some (.int v2), some (.int 0)]) rfl (jlt rfl) rfl ?_
  refine jx_le (pl' := [some (.ref o), some (.ref v1), some (.int v2), some (.int 0)]) (jle_v (jle_v (jle_v (jle_v jle_nil)))) ?_
  obtain ⟨x10, hz_x10, K⟩ := Option.bind_eq_some_iff.mp K
  refine kSd_writeImage_l31_w hP ho hv1 hd hz_x10 ?_
  refine jx_next (pc := 68) (pc' := 69) rfl rfl ?_
  refine jx_next (pc := 69) (pc' := 70) rfl rfl ?_
  refine jx_next (pc := 70) (pc' := 71) rfl rfl ?_
  refine jx_callv (pc := 71) (o := v1) (rest := [.ref v1, .ref v1]) rfl ⟨by decide, by decide⟩ rfl hv1 (Nat.le_of_ble_eq_true rfl) ?_
  refine kTp_size hP hv1 (by omega) rfl ?_
  refine jx_callv (pc := 74) (o := v1) (rest := [.ref v1]) rfl ⟨by decide, by decide⟩ rfl hv1 (Nat.le_of_ble_eq_true rfl) ?_
  obtain ⟨z12, hz_z12, K⟩ := Option.bind_eq_some_iff.mp K
  refine kTp_checkOf hP hv1 (by omega) hz_z12 ?_
  refine jx_callv (pc := 77) (o := v1) (rest := []) rfl ⟨by decide, by decide⟩ rfl hv1 (Nat.le_of_ble_eq_true rfl) ?_
  obtain ⟨z13, hz_z13, K⟩ := Option.bind_eq_some_iff.mp K
  refine kTp_put hP hv1 (by omega) hz_z13 ?_
  obtain rfl := Option.some.inj K
  exact jx_ret (pc := 80) rfl rfl HQ
/-- AndGuest$Standing.writeImage(LAndGuest$Tape;I)V -/
noncomputable def fSd_writeImage (o : Nat) (v1 : Nat) (v2 : Int32) (h : jH) : Option jH :=
  (Option.bind (fTp_putPair v1 (h.1 o 0) h) (fun (z1 : jH) =>
  (if (z1.1 o 1) = (-1) then
  fSd_writeImage_j26  o v1 v2 v1 65535 z1
  else
  fSd_writeImage_j26  o v1 v2 v1 (z1.1 o 1) z1)))
theorem kSd_writeImage {X : jX} {dd : Nat} {p d : Nat} {q : Nat → Nat} {Q : Option Value → jS → Prop} {o : Nat} {v1 : Nat} {v2 : Int32} {h : jH} (hP : jOK p d q) (ho : jcl 176 o = 6) (hv1 : jcl 176 v1 = 2) (hd : 2 ≤ dd) {z : jH} (K : fSd_writeImage o v1 v2 h = some z) (HQ : Q none (176, jRf p d q, z)) :
    jCa X dd 179 [.ref o, .ref v1, .int v2] (176, jRf p d q, h) Q := by
  obtain ⟨dd, rfl⟩ : ∃ d9, dd = d9 + 1 := ⟨dd - 1, by omega⟩
  unfold fSd_writeImage at K
  refine jCa_of (es := jc_179) (pl := [some (.ref o), some (.ref v1), some (.int v2), none]) (M := jm_179) rfl rfl rfl rfl ?_
  refine jx_next (pc := 0) (pc' := 1) rfl rfl ?_
  refine jx_next (pc := 1) (pc' := 2) rfl rfl ?_
  refine jx_geti (pc := 2) rfl ho ?_
  refine jx_callv (pc := 5) (o := v1) (rest := []) rfl ⟨by decide, by decide⟩ rfl hv1 (Nat.le_of_ble_eq_true rfl) ?_
  obtain ⟨z1, hz_z1, K⟩ := Option.bind_eq_some_iff.mp K
  refine kTp_putPair hP hv1 (by omega) hz_z1 ?_
  refine jx_next (pc := 8) (pc' := 9) rfl rfl ?_
  refine jx_next (pc := 9) (pc' := 10) rfl rfl ?_
  refine jx_geti (pc := 10) rfl ho ?_
  refine jx_next (pc := 13) (pc' := 14) rfl rfl ?_
  refine jx_icne (pc := 14) rfl (fun hc2 => ?_) (fun hc2 => ?_)
  · replace K := (if_pos hc2).symm.trans K
    refine jx_next (pc := 17) (pc' := 19) rfl rfl ?_
    refine jx_next (pc := 19) (pc' := 26) rfl rfl ?_
    refine jx_le (pl' := [some (.ref o), some (.ref v1), some (.int v2), none]) (jle_v (jle_v (jle_v (jle_n jle_nil)))) ?_
    exact kSd_writeImage_j26 hP ho hv1 hv1 hd K HQ
  · replace K := (if_neg hc2).symm.trans K
    refine jx_next (pc := 22) (pc' := 23) rfl rfl ?_
    refine jx_geti (pc := 23) rfl ho ?_
    refine jx_le (pl' := [some (.ref o), some (.ref v1), some (.int v2), none]) (jle_v (jle_v (jle_v (jle_n jle_nil)))) ?_
    exact kSd_writeImage_j26 hP ho hv1 hv1 hd K HQ
/-- AndGuest.image()I -/
noncomputable def fA_image (p : Nat)  (h : jH) : Option (Int32 × jH) :=
  (Option.bind (fSd_writeImage 11 4 ((fTp_cut 4 0 h).1 p 0) (fTp_cut 4 0 h)) (fun (z3 : jH) =>
  some ((fTp_size 4 z3), z3)))
theorem kA_image {X : jX} {dd : Nat} {p d : Nat} {q : Nat → Nat} {Q : Option Value → jS → Prop}  {h : jH} (hP : jOK p d q)  (hd : 3 ≤ dd) {z : Int32 × jH} (K : fA_image p  h = some z) (HQ : Q (some (.int z.1)) (176, jRf p d q, z.2)) :
    jCa X dd 178 [.ref 1] (176, jRf p d q, h) Q := by
  obtain ⟨dd, rfl⟩ : ∃ d9, dd = d9 + 1 := ⟨dd - 1, by omega⟩
  unfold fA_image at K
  refine jCa_of (es := jc_178) (pl := [some (.ref 1)]) (M := jm_178) rfl rfl rfl rfl ?_
  refine jx_next (pc := 0) (pc' := 1) rfl rfl ?_
  refine jx_getr2 (pc := 1) rfl jko_1 jr_1_1 ?_
  refine jx_next (pc := 4) (pc' := 5) rfl rfl ?_
  refine jx_callv (pc := 5) (o := 4) (rest := []) rfl ⟨by decide, by decide⟩ rfl jko_4 (Nat.le_of_ble_eq_true rfl) ?_
  refine kTp_cut hP jko_4 (by omega) rfl ?_
  refine jx_next (pc := 8) (pc' := 9) rfl rfl ?_
  refine jx_getr2 (pc := 9) rfl jko_1 jr_1_5 ?_
  refine jx_next (pc := 12) (pc' := 13) rfl rfl ?_
  refine jx_getr2 (pc := 13) rfl jko_1 jr_1_1 ?_
  refine jx_next (pc := 16) (pc' := 17) rfl rfl ?_
  refine jx_getr2 (pc := 17) rfl jko_1 jr_1_8 ?_
  refine jx_callv (pc := 20) (o := 79) (rest := [.ref 4, .ref 11]) rfl ⟨by decide, by decide⟩ rfl jko_79 (Nat.le_of_ble_eq_true rfl) ?_
  refine kPy_plan hP (by omega) rfl ?_
  refine jx_geti (pc := 23) rfl hP.1 ?_
  refine jx_callv (pc := 26) (o := 11) (rest := []) rfl ⟨by decide, by decide⟩ rfl jko_11 (Nat.le_of_ble_eq_true rfl) ?_
  obtain ⟨z3, hz_z3, K⟩ := Option.bind_eq_some_iff.mp K
  refine kSd_writeImage hP jko_11 jko_4 (by omega) hz_z3 ?_
  refine jx_next (pc := 29) (pc' := 30) rfl rfl ?_
  refine jx_getr2 (pc := 30) rfl jko_1 jr_1_1 ?_
  refine jx_callv (pc := 33) (o := 4) (rest := []) rfl ⟨by decide, by decide⟩ rfl jko_4 (Nat.le_of_ble_eq_true rfl) ?_
  refine kTp_size hP jko_4 (by omega) rfl ?_
  obtain rfl := Option.some.inj K
  exact jx_iret (pc := 36) rfl HQ
/-- AndGuest.octet(I)I -/
noncomputable def fA_octet (v1 : Int32) (h : jH) : Option Int32 :=
  (Option.bind (fTp_byteAt 4 v1 h) (fun (z1 : Int32) =>
  some (z1 : Int32)))
theorem kA_octet {X : jX} {dd : Nat} {p d : Nat} {q : Nat → Nat} {Q : Option Value → jS → Prop} {v1 : Int32} {h : jH} (hP : jOK p d q)  (hd : 1 ≤ dd) {z : Int32} (K : fA_octet v1 h = some z) (HQ : Q (some (.int z)) (176, jRf p d q, h)) :
    jCa X dd 181 [.ref 1, .int v1] (176, jRf p d q, h) Q := by
  obtain ⟨dd, rfl⟩ : ∃ d9, dd = d9 + 1 := ⟨dd - 1, by omega⟩
  unfold fA_octet at K
  refine jCa_of (es := jc_181) (pl := [some (.ref 1), some (.int v1)]) (M := jm_181) rfl rfl rfl rfl ?_
  refine jx_next (pc := 0) (pc' := 1) rfl rfl ?_
  refine jx_getr2 (pc := 1) rfl jko_1 jr_1_1 ?_
  refine jx_next (pc := 4) (pc' := 5) rfl rfl ?_
  refine jx_callv (pc := 5) (o := 4) (rest := []) rfl ⟨by decide, by decide⟩ rfl jko_4 (Nat.le_of_ble_eq_true rfl) ?_
  obtain ⟨z1, hz_z1, K⟩ := Option.bind_eq_some_iff.mp K
  refine kTp_byteAt hP jko_4 (by omega) hz_z1 ?_
  obtain rfl := Option.some.inj K
  exact jx_iret (pc := 8) rfl HQ
/-- AndGuest$Tape.pairAt(I)I -/
noncomputable def fTp_pairAt (o : Nat) (v1 : Int32) (h : jH) : Option Int32 :=
  (Option.bind (fTp_byteAt o v1 h) (fun (z1 : Int32) =>
  (Option.bind (fTp_byteAt o (v1 + 1) h) (fun (z2 : Int32) =>
  some ((z1 * 256) + z2 : Int32)))))
theorem kTp_pairAt {X : jX} {dd : Nat} {p d : Nat} {q : Nat → Nat} {Q : Option Value → jS → Prop} {o : Nat} {v1 : Int32} {h : jH} (hP : jOK p d q) (ho : jcl 176 o = 2) (hd : 1 ≤ dd) {z : Int32} (K : fTp_pairAt o v1 h = some z) (HQ : Q (some (.int z)) (176, jRf p d q, h)) :
    jCa X dd 184 [.ref o, .int v1] (176, jRf p d q, h) Q := by
  obtain ⟨dd, rfl⟩ : ∃ d9, dd = d9 + 1 := ⟨dd - 1, by omega⟩
  unfold fTp_pairAt at K
  refine jCa_of (es := jc_184) (pl := [some (.ref o), some (.int v1)]) (M := jm_184) rfl rfl rfl rfl ?_
  refine jx_next (pc := 0) (pc' := 1) rfl rfl ?_
  refine jx_next (pc := 1) (pc' := 2) rfl rfl ?_
  refine jx_callv (pc := 2) (o := o) (rest := []) rfl ⟨by decide, by decide⟩ rfl ho (Nat.le_of_ble_eq_true rfl) ?_
  obtain ⟨z1, hz_z1, K⟩ := Option.bind_eq_some_iff.mp K
  refine kTp_byteAt hP ho (by omega) hz_z1 ?_
  refine jx_next (pc := 5) (pc' := 8) rfl rfl ?_
  refine jx_next (pc := 8) (pc' := 9) rfl rfl ?_
  refine jx_next (pc := 9) (pc' := 10) rfl rfl ?_
  refine jx_next (pc := 10) (pc' := 11) rfl rfl ?_
  refine jx_next (pc := 11) (pc' := 12) rfl rfl ?_
  refine jx_next (pc := 12) (pc' := 13) rfl rfl ?_
  refine jx_callv (pc := 13) (o := o) (rest := [.int (z1 * 256)]) rfl ⟨by decide, by decide⟩ rfl ho (Nat.le_of_ble_eq_true rfl) ?_
  obtain ⟨z2, hz_z2, K⟩ := Option.bind_eq_some_iff.mp K
  refine kTp_byteAt hP ho (by omega) hz_z2 ?_
  refine jx_next (pc := 16) (pc' := 17) rfl rfl ?_
  obtain rfl := Option.some.inj K
  exact jx_iret (pc := 17) rfl HQ
noncomputable def fSd_isSound_l67_j133 (o : Nat) (v1 : Int32) (v2 : Int32) (h : jH) : Option ((Int32 × Int32) ⊕ ((Unit) ⊕ (Int32))) :=
  some (.inl (v1, v2 + 1))
theorem kSd_isSound_l67_j133 {X : jX} {dd : Nat} {p d : Nat} {q : Nat → Nat} {Q : Option Value → jS → Prop} {o : Nat} {v1 : Int32} {v2 : Int32} {h : jH} (hP : jOK p d q) (ho : jcl 176 o = 6) (hd : 1 ≤ (dd + 1)) {z : (Int32 × Int32) ⊕ ((Unit) ⊕ (Int32))} (K : fSd_isSound_l67_j133 o v1 v2 h = some z) (HL : ∀ s : Int32 × Int32, z = .inl s → jEx X (dd + 1) jc_185 67 [some (.ref o), some (.int s.1), some (.int s.2), none] [] (176, jRf p d q, h) Q) (HE0 : ∀ x : Unit, z = .inr (.inl x) → jEx X (dd + 1) jc_185 111 [none, none, none, none] [] (176, jRf p d q, h) Q) (HE1 : ∀ x : Int32, z = .inr (.inr x) → jEx X (dd + 1) jc_185 139 [none, some (.int x), none, none] [] (176, jRf p d q, h) Q) :
    jEx X (dd + 1) jc_185 133 [some (.ref o), some (.int v1), some (.int v2), none] [] (176, jRf p d q, h) Q := by
  unfold fSd_isSound_l67_j133 at K
  refine jx_inc (pc := 133) (x := v2) (p2 := [some (.ref o), some (.int v1), some (.int (v2 + 1)), none]) rfl rfl (jlt rfl) rfl ?_
  refine jx_next (pc := 136) (pc' := 67) rfl rfl ?_
  obtain rfl := Option.some.inj K
  refine jx_le (pl' := [some (.ref o), some (.int v1), some (.int (v2 + 1)), none]) (jle_v (jle_v (jle_v (jle_n jle_nil)))) ?_
  exact HL (v1, v2 + 1) rfl
noncomputable def fSd_isSound_l67_j90 (o : Nat) (v1 : Int32) (v2 : Int32) (s0 : Int32) (h : jH) : Option ((Int32 × Int32) ⊕ ((Unit) ⊕ (Int32))) :=
  (if jin v2 8 then
  (if 4 < (h.1 (o + 1) v2.toNatClampNeg) then
  some (.inr (.inl ()))
  else
  (if jin v2 8 then
  (if s0 < (h.1 (o + 2) v2.toNatClampNeg) then
  some (.inr (.inl ()))
  else
  (if jin v2 8 then
  (if (h.1 (o + 1) v2.toNatClampNeg) = 0 then
  fSd_isSound_l67_j133  o v1 v2 h
  else
  (if jin v2 8 then
  (if (h.1 (o + 2) v2.toNatClampNeg) = 0 then
  fSd_isSound_l67_j133  o 1 v2 h
  else
  fSd_isSound_l67_j133  o v1 v2 h)
  else none))
  else none))
  else none))
  else none)
theorem kSd_isSound_l67_j90 {X : jX} {dd : Nat} {p d : Nat} {q : Nat → Nat} {Q : Option Value → jS → Prop} {o : Nat} {v1 : Int32} {v2 : Int32} {s0 : Int32} {h : jH} (hP : jOK p d q) (ho : jcl 176 o = 6) (hd : 1 ≤ (dd + 1)) {z : (Int32 × Int32) ⊕ ((Unit) ⊕ (Int32))} (K : fSd_isSound_l67_j90 o v1 v2 s0 h = some z) (HL : ∀ s : Int32 × Int32, z = .inl s → jEx X (dd + 1) jc_185 67 [some (.ref o), some (.int s.1), some (.int s.2), none] [] (176, jRf p d q, h) Q) (HE0 : ∀ x : Unit, z = .inr (.inl x) → jEx X (dd + 1) jc_185 111 [none, none, none, none] [] (176, jRf p d q, h) Q) (HE1 : ∀ x : Int32, z = .inr (.inr x) → jEx X (dd + 1) jc_185 139 [none, some (.int x), none, none] [] (176, jRf p d q, h) Q) :
    jEx X (dd + 1) jc_185 90 [some (.ref o), some (.int v1), some (.int v2), none] [.int s0] (176, jRf p d q, h) Q := by
  unfold fSd_isSound_l67_j90 at K
  refine jx_stin (pc := 90) (p2 := [some (.ref o), some (.int v1), some (.int v2), some (.int s0)]) rfl (jlt rfl) rfl ?_
  refine jx_next (pc := 91) (pc' := 92) rfl rfl ?_
  refine jx_getr2 (pc := 92) rfl ho (jrm_6_2 ho) ?_
  refine jx_next (pc := 95) (pc' := 96) rfl rfl ?_
  obtain ⟨hg11, K⟩ := jguard K
  refine jx_iald2 (pc := 96) rfl (jkm_6_2 ho) (jnm_6_2 ho) hg11 ?_
  refine jx_next (pc := 97) (pc' := 98) rfl rfl ?_
  refine jx_icgt (pc := 98) rfl (fun hc12 => ?_) (fun hc12 => ?_)
  · replace K := (if_pos hc12).symm.trans K
    obtain rfl := Option.some.inj K
    refine jx_le (pl' := [none, none, none, none]) (jle_n (jle_n (jle_n (jle_n jle_nil)))) ?_
    exact HE0 _ rfl
  · replace K := (if_neg hc12).symm.trans K
    refine jx_next (pc := 101) (pc' := 102) rfl rfl ?_
    refine jx_getr2 (pc := 102) rfl ho (jrm_6_3 ho) ?_
    refine jx_next (pc := 105) (pc' := 106) rfl rfl ?_
    obtain ⟨hg13, K⟩ := jguard K
    refine jx_iald2 (pc := 106) rfl (jkm_6_3 ho) (jnm_6_3 ho) hg13 ?_
    refine jx_next (pc := 107) (pc' := 108) rfl rfl ?_
    refine jx_icle (pc := 108) rfl (fun hc14 => ?_) (fun hc14 => ?_)
    · replace K := (if_pos hc14).symm.trans K
      obtain rfl := Option.some.inj K
      refine jx_le (pl' := [none, none, none, none]) (jle_n (jle_n (jle_n (jle_n jle_nil)))) ?_
      exact HE0 _ rfl
    · replace K := (if_neg hc14).symm.trans K
      refine jx_next (pc := 113) (pc' := 114) rfl rfl ?_
      refine jx_getr2 (pc := 114) rfl ho (jrm_6_2 ho) ?_
      refine jx_next (pc := 117) (pc' := 118) rfl rfl ?_
      obtain ⟨hg15, K⟩ := jguard K
      refine jx_iald2 (pc := 118) rfl (jkm_6_2 ho) (jnm_6_2 ho) hg15 ?_
      refine jx_ifeq (pc := 119) rfl (fun hc16 => ?_) (fun hc16 => ?_)
      · replace K := (if_pos hc16).symm.trans K
        refine jx_le (pl' := [some (.ref o), some (.int v1), some (.int v2), none]) (jle_v (jle_v (jle_v (jle_n jle_nil)))) ?_
        exact kSd_isSound_l67_j133 hP ho hd K HL HE0 HE1
      · replace K := (if_neg hc16).symm.trans K
        refine jx_next (pc := 122) (pc' := 123) rfl rfl ?_
        refine jx_getr2 (pc := 123) rfl ho (jrm_6_3 ho) ?_
        refine jx_next (pc := 126) (pc' := 127) rfl rfl ?_
        obtain ⟨hg17, K⟩ := jguard K
        refine jx_iald2 (pc := 127) rfl (jkm_6_3 ho) (jnm_6_3 ho) hg17 ?_
        refine jx_ifne (pc := 128) rfl (fun hc18 => ?_) (fun hc18 => ?_)
        · replace K := (if_pos hc18).symm.trans K
          refine jx_next (pc := 131) (pc' := 132) rfl rfl ?_
          refine jx_stin (pc := 132) (p2 := [some (.ref o), some (.int 1), some (.int v2), some (.int s0)]) rfl (jlt rfl) rfl ?_
          refine jx_le (pl' := [some (.ref o), some (.int 1), some (.int v2), none]) (jle_v (jle_v (jle_v (jle_n jle_nil)))) ?_
          exact kSd_isSound_l67_j133 hP ho hd K HL HE0 HE1
        · replace K := (if_neg hc18).symm.trans K
          refine jx_le (pl' := [some (.ref o), some (.int v1), some (.int v2), none]) (jle_v (jle_v (jle_v (jle_n jle_nil)))) ?_
          exact kSd_isSound_l67_j133 hP ho hd K HL HE0 HE1
noncomputable def fSd_isSound_l67_b (o : Nat) (v1 : Int32) (v2 : Int32) (h : jH) : Option ((Int32 × Int32) ⊕ ((Unit) ⊕ (Int32))) :=
  (if v2 < 8 then
  (if jin v2 8 then
  (if (h.1 (o + 1) v2.toNatClampNeg) = 0 then
  fSd_isSound_l67_j90  o v1 v2 0 h
  else
  fSd_isSound_l67_j90  o v1 v2 (fSd_behindNow o h) h)
  else none)
  else
  some (.inr (.inr v1)))
noncomputable def fSd_isSound_l67 (o : Nat) (h : jH) : (Int32 × Int32) → Option ((Int32 × Int32) ⊕ ((Unit) ⊕ (Int32))) :=
  fun (s : Int32 × Int32) => fSd_isSound_l67_b o s.1 s.2 h
theorem kSd_isSound_l67_b {X : jX} {dd : Nat} {p d : Nat} {q : Nat → Nat} {Q : Option Value → jS → Prop} {o : Nat} {v1 : Int32} {v2 : Int32} {h : jH} (hP : jOK p d q) (ho : jcl 176 o = 6) (hd : 1 ≤ (dd + 1)) {z : (Int32 × Int32) ⊕ ((Unit) ⊕ (Int32))} (K : fSd_isSound_l67_b o v1 v2 h = some z) (HL : ∀ s : Int32 × Int32, z = .inl s → jEx X (dd + 1) jc_185 67 [some (.ref o), some (.int s.1), some (.int s.2), none] [] (176, jRf p d q, h) Q) (HE0 : ∀ x : Unit, z = .inr (.inl x) → jEx X (dd + 1) jc_185 111 [none, none, none, none] [] (176, jRf p d q, h) Q) (HE1 : ∀ x : Int32, z = .inr (.inr x) → jEx X (dd + 1) jc_185 139 [none, some (.int x), none, none] [] (176, jRf p d q, h) Q) :
    jEx X (dd + 1) jc_185 67 [some (.ref o), some (.int v1), some (.int v2), none] [] (176, jRf p d q, h) Q := by
  unfold fSd_isSound_l67_b at K
  refine jx_next (pc := 67) (pc' := 68) rfl rfl ?_
  refine jx_next (pc := 68) (pc' := 70) rfl rfl ?_
  refine jx_icge (pc := 70) rfl (fun hc8 => ?_) (fun hc8 => ?_)
  · replace K := (if_pos hc8).symm.trans K
    refine jx_next (pc := 73) (pc' := 74) rfl rfl ?_
    refine jx_getr2 (pc := 74) rfl ho (jrm_6_2 ho) ?_
    refine jx_next (pc := 77) (pc' := 78) rfl rfl ?_
    obtain ⟨hg9, K⟩ := jguard K
    refine jx_iald2 (pc := 78) rfl (jkm_6_2 ho) (jnm_6_2 ho) hg9 ?_
    refine jx_ifne (pc := 79) rfl (fun hc10 => ?_) (fun hc10 => ?_)
    · replace K := (if_pos hc10).symm.trans K
      refine jx_next (pc := 82) (pc' := 83) rfl rfl ?_
      refine jx_next (pc := 83) (pc' := 90) rfl rfl ?_
      refine jx_le (pl' := [some (.ref o), some (.int v1), some (.int v2), none]) (jle_v (jle_v (jle_v (jle_n jle_nil)))) ?_
      exact kSd_isSound_l67_j90 hP ho hd K HL HE0 HE1
    · replace K := (if_neg hc10).symm.trans K
      refine jx_next (pc := 86) (pc' := 87) rfl rfl ?_
      refine jx_callv (pc := 87) (o := o) (rest := []) rfl ⟨by decide, by decide⟩ rfl ho (Nat.le_of_ble_eq_true rfl) ?_
      refine kSd_behindNow hP ho (by omega) rfl ?_
      refine jx_le (pl' := [some (.ref o), some (.int v1), some (.int v2), none]) (jle_v (jle_v (jle_v (jle_n jle_nil)))) ?_
      exact kSd_isSound_l67_j90 hP ho hd K HL HE0 HE1
  · replace K := (if_neg hc8).symm.trans K
    obtain rfl := Option.some.inj K
    refine jx_le (pl' := [none, some (.int v1), none, none]) (jle_n (jle_v (jle_n (jle_n jle_nil)))) ?_
    exact HE1 _ rfl
theorem kSd_isSound_l67_w {X : jX} {dd : Nat} {p d : Nat} {q : Nat → Nat} {Q : Option Value → jS → Prop} {o : Nat} {h : jH} (hP : jOK p d q) (ho : jcl 176 o = 6) (hd : 1 ≤ (dd + 1)) {s : Int32 × Int32} {x : (Unit) ⊕ (Int32)} (K : jlim (fSd_isSound_l67 o h) s = some x) (HE0 : ∀ x0 : Unit, x = .inl x0 → jEx X (dd + 1) jc_185 111 [none, none, none, none] [] (176, jRf p d q, h) Q) (HE1 : ∀ x0 : Int32, x = .inr x0 → jEx X (dd + 1) jc_185 139 [none, some (.int x0), none, none] [] (176, jRf p d q, h) Q) :
    jEx X (dd + 1) jc_185 67 [some (.ref o), some (.int s.1), some (.int s.2), none] [] (176, jRf p d q, h) Q := by
  refine jlim_ok (G := fun s : Int32 × Int32 => jEx X (dd + 1) jc_185 67 [some (.ref o), some (.int s.1), some (.int s.2), none] [] (176, jRf p d q, h) Q) (GX := fun x : (Unit) ⊕ (Int32) => (∀ x0 : Unit, x = .inl x0 → jEx X (dd + 1) jc_185 111 [none, none, none, none] [] (176, jRf p d q, h) Q) ∧ (∀ x0 : Int32, x = .inr x0 → jEx X (dd + 1) jc_185 139 [none, some (.int x0), none, none] [] (176, jRf p d q, h) Q)) (fun s z hz HL HE => ?_) K ⟨HE0, HE1⟩
  exact kSd_isSound_l67_b hP ho hd hz HL (fun x hx => (HE _ hx).1 x rfl) (fun x hx => (HE _ hx).2 x rfl)
noncomputable def fSd_isSound_j64 (o : Nat) (s0 : Int32) (h : jH) : Option Int32 :=
  (Option.bind (jlim (fSd_isSound_l67  o h) (s0, 0)) (fun (x20 : (Unit) ⊕ (Int32)) => Sum.elim (fun (y20 : Unit) =>
  some (0 : Int32)) (fun (y20 : Int32) =>
  (if y20 = 0 ∨ y20 = 1 then some (y20 : Int32) else none)) x20))
theorem kSd_isSound_j64 {X : jX} {dd : Nat} {p d : Nat} {q : Nat → Nat} {Q : Option Value → jS → Prop} {o : Nat} {s0 : Int32} {h : jH} (hP : jOK p d q) (ho : jcl 176 o = 6) (hd : 1 ≤ (dd + 1)) {z : Int32} (K : fSd_isSound_j64 o s0 h = some z) (HQ : Q (some (.int z)) (176, jRf p d q, h)) :
    jEx X (dd + 1) jc_185 64 [some (.ref o), none, none, none] [.int s0] (176, jRf p d q, h) Q := by
  unfold fSd_isSound_j64 at K
  refine jx_stin (pc := 64) (p2 := [some (.ref o), some (.int s0), none, none]) rfl (jlt rfl) rfl ?_
  refine jx_next (pc := 65) (pc' := 66) rfl rfl ?_
  refine jx_stin (pc := 66) (p2 := [some (.ref o), some (.int s0), some (.int 0), none]) rfl (jlt rfl) rfl ?_
  refine jx_le (pl' := [some (.ref o), some (.int s0), some (.int 0), none]) (jle_v (jle_v (jle_v (jle_n jle_nil)))) ?_
  obtain ⟨x20, hz_x20, K⟩ := Option.bind_eq_some_iff.mp K
  refine kSd_isSound_l67_w hP ho hd hz_x20 (fun y20 hx9 => ?_) (fun y20 hx9 => ?_)
  · subst hx9
    refine jx_next (pc := 111) (pc' := 112) rfl rfl ?_
    obtain rfl := Option.some.inj K
    exact jx_zret (pc := 112) rfl (Or.inl rfl) HQ
  · subst hx9
    refine jx_next (pc := 139) (pc' := 140) rfl rfl ?_
    obtain ⟨hg, K⟩ := jguard K
    obtain rfl := Option.some.inj K
    exact jx_zret (pc := 140) rfl hg HQ
noncomputable def fSd_isSound_j46 (o : Nat) (s0 : Int32) (s1 : Int32) (h : jH) : Option Int32 :=
  (if s0 = s1 then
  (if (h.1 o 1) = (-1) then
  fSd_isSound_j64  o 1 h
  else
  fSd_isSound_j64  o 0 h)
  else
  some (0 : Int32))
theorem kSd_isSound_j46 {X : jX} {dd : Nat} {p d : Nat} {q : Nat → Nat} {Q : Option Value → jS → Prop} {o : Nat} {s0 : Int32} {s1 : Int32} {h : jH} (hP : jOK p d q) (ho : jcl 176 o = 6) (hd : 1 ≤ (dd + 1)) {z : Int32} (K : fSd_isSound_j46 o s0 s1 h = some z) (HQ : Q (some (.int z)) (176, jRf p d q, h)) :
    jEx X (dd + 1) jc_185 46 [some (.ref o), none, none, none] [.int s1, .int s0] (176, jRf p d q, h) Q := by
  unfold fSd_isSound_j46 at K
  refine jx_iceq (pc := 46) rfl (fun hc6 => ?_) (fun hc6 => ?_)
  · replace K := (if_pos hc6).symm.trans K
    refine jx_next (pc := 51) (pc' := 52) rfl rfl ?_
    refine jx_geti (pc := 52) rfl ho ?_
    refine jx_next (pc := 55) (pc' := 56) rfl rfl ?_
    refine jx_icne (pc := 56) rfl (fun hc7 => ?_) (fun hc7 => ?_)
    · replace K := (if_pos hc7).symm.trans K
      refine jx_next (pc := 59) (pc' := 60) rfl rfl ?_
      refine jx_next (pc := 60) (pc' := 64) rfl rfl ?_
      refine jx_le (pl' := [some (.ref o), none, none, none]) (jle_v (jle_n (jle_n (jle_n jle_nil)))) ?_
      exact kSd_isSound_j64 hP ho hd K HQ
    · replace K := (if_neg hc7).symm.trans K
      refine jx_next (pc := 63) (pc' := 64) rfl rfl ?_
      refine jx_le (pl' := [some (.ref o), none, none, none]) (jle_v (jle_n (jle_n (jle_n jle_nil)))) ?_
      exact kSd_isSound_j64 hP ho hd K HQ
  · replace K := (if_neg hc6).symm.trans K
    refine jx_next (pc := 49) (pc' := 50) rfl rfl ?_
    obtain rfl := Option.some.inj K
    exact jx_zret (pc := 50) rfl (Or.inl rfl) HQ
noncomputable def fSd_isSound_j34 (o : Nat) (s0 : Int32) (h : jH) : Option Int32 :=
  (Option.bind (fSd_askedSet o h) (fun (z4 : Int32) =>
  (if z4 = 0 then
  fSd_isSound_j46  o s0 1 h
  else
  fSd_isSound_j46  o s0 0 h)))
theorem kSd_isSound_j34 {X : jX} {dd : Nat} {p d : Nat} {q : Nat → Nat} {Q : Option Value → jS → Prop} {o : Nat} {s0 : Int32} {h : jH} (hP : jOK p d q) (ho : jcl 176 o = 6) (hd : 1 ≤ (dd + 1)) {z : Int32} (K : fSd_isSound_j34 o s0 h = some z) (HQ : Q (some (.int z)) (176, jRf p d q, h)) :
    jEx X (dd + 1) jc_185 34 [some (.ref o), none, none, none] [.int s0] (176, jRf p d q, h) Q := by
  unfold fSd_isSound_j34 at K
  refine jx_next (pc := 34) (pc' := 35) rfl rfl ?_
  refine jx_callv (pc := 35) (o := o) (rest := [.int s0]) rfl ⟨by decide, by decide⟩ rfl ho (Nat.le_of_ble_eq_true rfl) ?_
  obtain ⟨z4, hz_z4, K⟩ := Option.bind_eq_some_iff.mp K
  refine kSd_askedSet hP ho (by omega) hz_z4 ?_
  refine jx_ifne (pc := 38) rfl (fun hc5 => ?_) (fun hc5 => ?_)
  · replace K := (if_pos hc5).symm.trans K
    refine jx_next (pc := 41) (pc' := 42) rfl rfl ?_
    refine jx_next (pc := 42) (pc' := 46) rfl rfl ?_
    refine jx_le (pl' := [some (.ref o), none, none, none]) (jle_v (jle_n (jle_n (jle_n jle_nil)))) ?_
    exact kSd_isSound_j46 hP ho hd K HQ
  · replace K := (if_neg hc5).symm.trans K
    refine jx_next (pc := 45) (pc' := 46) rfl rfl ?_
    refine jx_le (pl' := [some (.ref o), none, none, none]) (jle_v (jle_n (jle_n (jle_n jle_nil)))) ?_
    exact kSd_isSound_j46 hP ho hd K HQ
/-- AndGuest$Standing.isSound()Z -/
noncomputable def fSd_isSound (o : Nat) (h : jH) : Option Int32 :=
  (if 999 < (h.1 o 0) then
  some (0 : Int32)
  else
  (if (h.1 o 0) < (h.1 o 1) then
  some (0 : Int32)
  else
  (if (h.1 o 1) = (-1) then
  fSd_isSound_j34  o 1 h
  else
  fSd_isSound_j34  o 0 h)))
theorem kSd_isSound {X : jX} {dd : Nat} {p d : Nat} {q : Nat → Nat} {Q : Option Value → jS → Prop} {o : Nat} {h : jH} (hP : jOK p d q) (ho : jcl 176 o = 6) (hd : 1 ≤ dd) {z : Int32} (K : fSd_isSound o h = some z) (HQ : Q (some (.int z)) (176, jRf p d q, h)) :
    jCa X dd 185 [.ref o] (176, jRf p d q, h) Q := by
  obtain ⟨dd, rfl⟩ : ∃ d9, dd = d9 + 1 := ⟨dd - 1, by omega⟩
  unfold fSd_isSound at K
  refine jCa_of (es := jc_185) (pl := [some (.ref o), none, none, none]) (M := jm_185) rfl rfl rfl rfl ?_
  refine jx_next (pc := 0) (pc' := 1) rfl rfl ?_
  refine jx_geti (pc := 1) rfl ho ?_
  refine jx_next (pc := 4) (pc' := 7) rfl rfl ?_
  refine jx_icgt (pc := 7) rfl (fun hc1 => ?_) (fun hc1 => ?_)
  · replace K := (if_pos hc1).symm.trans K
    refine jx_next (pc := 49) (pc' := 50) rfl rfl ?_
    obtain rfl := Option.some.inj K
    exact jx_zret (pc := 50) rfl (Or.inl rfl) HQ
  · replace K := (if_neg hc1).symm.trans K
    refine jx_next (pc := 10) (pc' := 11) rfl rfl ?_
    refine jx_geti (pc := 11) rfl ho ?_
    refine jx_next (pc := 14) (pc' := 15) rfl rfl ?_
    refine jx_geti (pc := 15) rfl ho ?_
    refine jx_icgt (pc := 18) rfl (fun hc2 => ?_) (fun hc2 => ?_)
    · replace K := (if_pos hc2).symm.trans K
      refine jx_next (pc := 49) (pc' := 50) rfl rfl ?_
      obtain rfl := Option.some.inj K
      exact jx_zret (pc := 50) rfl (Or.inl rfl) HQ
    · replace K := (if_neg hc2).symm.trans K
      refine jx_next (pc := 21) (pc' := 22) rfl rfl ?_
      refine jx_geti (pc := 22) rfl ho ?_
      refine jx_next (pc := 25) (pc' := 26) rfl rfl ?_
      refine jx_icne (pc := 26) rfl (fun hc3 => ?_) (fun hc3 => ?_)
      · replace K := (if_pos hc3).symm.trans K
        refine jx_next (pc := 29) (pc' := 30) rfl rfl ?_
        refine jx_next (pc := 30) (pc' := 34) rfl rfl ?_
        refine jx_le (pl' := [some (.ref o), none, none, none]) (jle_v (jle_n (jle_n (jle_n jle_nil)))) ?_
        exact kSd_isSound_j34 hP ho hd K HQ
      · replace K := (if_neg hc3).symm.trans K
        refine jx_next (pc := 33) (pc' := 34) rfl rfl ?_
        refine jx_le (pl' := [some (.ref o), none, none, none]) (jle_v (jle_n (jle_n (jle_n jle_nil)))) ?_
        exact kSd_isSound_j34 hP ho hd K HQ
noncomputable def fSd_readImage_l71_b (o : Nat) (v1 : Nat) (v2 : Int32) (v4 : Int32) (h : jH) : Option ((Int32 × jH) ⊕ (jH)) :=
  (if v4 < v2 then
  (if v4 < 8 then
  (Option.bind (fTp_byteAt v1 (4 + (3 * v4)) h) (fun (z13 : Int32) =>
  (if jin v4 8 then
  (Option.bind (fTp_pairAt v1 ((4 + (3 * v4)) + 1) (jhI h (o + 1) v4.toNatClampNeg z13)) (fun (z15 : Int32) =>
  (if jin v4 8 then
  some (.inl (v4 + 1, jhI (jhI h (o + 1) v4.toNatClampNeg z13) (o + 2) v4.toNatClampNeg z15))
  else none)))
  else none)))
  else
  some (.inr h))
  else
  some (.inr h))
noncomputable def fSd_readImage_l71 (o : Nat) (v1 : Nat) (v2 : Int32) : (Int32 × jH) → Option ((Int32 × jH) ⊕ (jH)) :=
  fun (s : Int32 × jH) => fSd_readImage_l71_b o v1 v2 s.1 s.2
theorem kSd_readImage_l71_b {X : jX} {dd : Nat} {p d : Nat} {q : Nat → Nat} {Q : Option Value → jS → Prop} {o : Nat} {v1 : Nat} {v2 : Int32} {v4 : Int32} {h : jH} (hP : jOK p d q) (ho : jcl 176 o = 6) (hv1 : jcl 176 v1 = 2) (hd : 2 ≤ (dd + 1)) {z : (Int32 × jH) ⊕ (jH)} (K : fSd_readImage_l71_b o v1 v2 v4 h = some z) (HL : ∀ s : Int32 × jH, z = .inl s → jEx X (dd + 1) jc_183 71 [some (.ref o), some (.ref v1), some (.int v2), none, some (.int s.1)] [] (176, jRf p d q, s.2) Q) (HE0 : ∀ x : jH, z = .inr x → jEx X (dd + 1) jc_183 126 [some (.ref o), none, none, none, none] [] (176, jRf p d q, x) Q) :
    jEx X (dd + 1) jc_183 71 [some (.ref o), some (.ref v1), some (.int v2), none, some (.int v4)] [] (176, jRf p d q, h) Q := by
  unfold fSd_readImage_l71_b at K
  refine jx_next (pc := 71) (pc' := 73) rfl rfl ?_
  refine jx_next (pc := 73) (pc' := 74) rfl rfl ?_
  refine jx_icge (pc := 74) rfl (fun hc11 => ?_) (fun hc11 => ?_)
  · replace K := (if_pos hc11).symm.trans K
    refine jx_next (pc := 77) (pc' := 79) rfl rfl ?_
    refine jx_next (pc := 79) (pc' := 81) rfl rfl ?_
    refine jx_icge (pc := 81) rfl (fun hc12 => ?_) (fun hc12 => ?_)
    · replace K := (if_pos hc12).symm.trans K
      refine jx_next (pc := 84) (pc' := 85) rfl rfl ?_
      refine jx_getr2 (pc := 85) rfl ho (jrm_6_2 ho) ?_
      refine jx_next (pc := 88) (pc' := 90) rfl rfl ?_
      refine jx_next (pc := 90) (pc' := 91) rfl rfl ?_
      refine jx_next (pc := 91) (pc' := 92) rfl rfl ?_
      refine jx_next (pc := 92) (pc' := 93) rfl rfl ?_
      refine jx_next (pc := 93) (pc' := 95) rfl rfl ?_
      refine jx_next (pc := 95) (pc' := 96) rfl rfl ?_
      refine jx_next (pc := 96) (pc' := 97) rfl rfl ?_
      refine jx_callv (pc := 97) (o := v1) (rest := [.int v4, .ref (o + 1)]) rfl ⟨by decide, by decide⟩ rfl hv1 (Nat.le_of_ble_eq_true rfl) ?_
      obtain ⟨z13, hz_z13, K⟩ := Option.bind_eq_some_iff.mp K
      refine kTp_byteAt hP hv1 (by omega) hz_z13 ?_
      obtain ⟨hg14, K⟩ := jguard K
      refine jx_iast2 (pc := 100) rfl (jkm_6_2 ho) (jnm_6_2 ho) hg14 ?_
      refine jx_next (pc := 101) (pc' := 102) rfl rfl ?_
      refine jx_getr2 (pc := 102) rfl ho (jrm_6_3 ho) ?_
      refine jx_next (pc := 105) (pc' := 107) rfl rfl ?_
      refine jx_next (pc := 107) (pc' := 108) rfl rfl ?_
      refine jx_next (pc := 108) (pc' := 109) rfl rfl ?_
      refine jx_next (pc := 109) (pc' := 110) rfl rfl ?_
      refine jx_next (pc := 110) (pc' := 112) rfl rfl ?_
      refine jx_next (pc := 112) (pc' := 113) rfl rfl ?_
      refine jx_next (pc := 113) (pc' := 114) rfl rfl ?_
      refine jx_next (pc := 114) (pc' := 115) rfl rfl ?_
      refine jx_next (pc := 115) (pc' := 116) rfl rfl ?_
      refine jx_callv (pc := 116) (o := v1) (rest := [.int v4, .ref (o + 2)]) rfl ⟨by decide, by decide⟩ rfl hv1 (Nat.le_of_ble_eq_true rfl) ?_
      obtain ⟨z15, hz_z15, K⟩ := Option.bind_eq_some_iff.mp K
      refine kTp_pairAt hP hv1 (by omega) hz_z15 ?_
      obtain ⟨hg16, K⟩ := jguard K
      refine jx_iast2 (pc := 119) rfl (jkm_6_3 ho) (jnm_6_3 ho) hg16 ?_
      refine jx_inc (pc := 120) (x := v4) (p2 := [some (.ref o), some (.ref v1), some (.int v2), none, some (.int (v4 + 1))]) rfl rfl (jlt rfl) rfl ?_
      refine jx_next (pc := 123) (pc' := 71) rfl rfl ?_
      obtain rfl := Option.some.inj K
      refine jx_le (pl' := [some (.ref o), some (.ref v1), some (.int v2), none, some (.int (v4 + 1))]) (jle_v (jle_v (jle_v (jle_n (jle_v jle_nil))))) ?_
      exact HL (v4 + 1, jhI (jhI h (o + 1) v4.toNatClampNeg z13) (o + 2) v4.toNatClampNeg z15) rfl
    · replace K := (if_neg hc12).symm.trans K
      obtain rfl := Option.some.inj K
      refine jx_le (pl' := [some (.ref o), none, none, none, none]) (jle_v (jle_n (jle_n (jle_n (jle_n jle_nil))))) ?_
      exact HE0 _ rfl
  · replace K := (if_neg hc11).symm.trans K
    obtain rfl := Option.some.inj K
    refine jx_le (pl' := [some (.ref o), none, none, none, none]) (jle_v (jle_n (jle_n (jle_n (jle_n jle_nil))))) ?_
    exact HE0 _ rfl
theorem kSd_readImage_l71_w {X : jX} {dd : Nat} {p d : Nat} {q : Nat → Nat} {Q : Option Value → jS → Prop} {o : Nat} {v1 : Nat} {v2 : Int32} (hP : jOK p d q) (ho : jcl 176 o = 6) (hv1 : jcl 176 v1 = 2) (hd : 2 ≤ (dd + 1)) {s : Int32 × jH} {x : jH} (K : jlim (fSd_readImage_l71 o v1 v2) s = some x) (HE : jEx X (dd + 1) jc_183 126 [some (.ref o), none, none, none, none] [] (176, jRf p d q, x) Q) :
    jEx X (dd + 1) jc_183 71 [some (.ref o), some (.ref v1), some (.int v2), none, some (.int s.1)] [] (176, jRf p d q, s.2) Q := by
  refine jlim_ok (G := fun s : Int32 × jH => jEx X (dd + 1) jc_183 71 [some (.ref o), some (.ref v1), some (.int v2), none, some (.int s.1)] [] (176, jRf p d q, s.2) Q) (GX := fun x : jH => jEx X (dd + 1) jc_183 126 [some (.ref o), none, none, none, none] [] (176, jRf p d q, x) Q) (fun s z hz HL HE => ?_) K HE
  exact kSd_readImage_l71_b hP ho hv1 hd hz HL HE
noncomputable def fSd_readImage_j65 (o : Nat) (v1 : Nat) (v2 : Int32) (s0 : Nat) (s1 : Int32) (h : jH) : Option (Int32 × jH) :=
  (Option.bind (jlim (fSd_readImage_l71  o v1 v2) (0, jhI h s0 1 s1)) (fun (x17 : jH) =>
  (Option.bind (fSd_isSound o x17) (fun (z18 : Int32) =>
  (if z18 = 0 ∨ z18 = 1 then some (z18, x17) else none)))))
theorem kSd_readImage_j65 {X : jX} {dd : Nat} {p d : Nat} {q : Nat → Nat} {Q : Option Value → jS → Prop} {o : Nat} {v1 : Nat} {v2 : Int32} {s0 : Nat} {s1 : Int32} {h : jH} (hP : jOK p d q) (ho : jcl 176 o = 6) (hv1 : jcl 176 v1 = 2) (hs0 : jcl 176 s0 = 6) (hd : 2 ≤ (dd + 1)) {z : Int32 × jH} (K : fSd_readImage_j65 o v1 v2 s0 s1 h = some z) (HQ : Q (some (.int z.1)) (176, jRf p d q, z.2)) :
    jEx X (dd + 1) jc_183 65 [some (.ref o), some (.ref v1), some (.int v2), none, none] [.int s1, .ref s0] (176, jRf p d q, h) Q := by
  unfold fSd_readImage_j65 at K
  refine jx_puti (pc := 65) rfl hs0 ?_
  refine jx_next (pc := 68) (pc' := 69) rfl rfl ?_
  refine jx_sti (pc := 69) (p2 := [some (.ref o), some (.ref v1), some (.int v2), none, some (.int 0)]) rfl (jlt rfl) rfl ?_
  refine jx_le (pl' := [some (.ref o), some (.ref v1), some (.int v2), none, some (.int 0)]) (jle_v (jle_v (jle_v (jle_n (jle_v jle_nil))))) ?_
  obtain ⟨x17, hz_x17, K⟩ := Option.bind_eq_some_iff.mp K
  refine kSd_readImage_l71_w hP ho hv1 hd hz_x17 ?_
  refine jx_next (pc := 126) (pc' := 127) rfl rfl ?_
  refine jx_callv (pc := 127) (o := o) (rest := []) rfl ⟨by decide, by decide⟩ rfl ho (Nat.le_of_ble_eq_true rfl) ?_
  obtain ⟨z18, hz_z18, K⟩ := Option.bind_eq_some_iff.mp K
  refine kSd_isSound hP ho (by omega) hz_z18 ?_
  obtain ⟨hg, K⟩ := jguard K
  obtain rfl := Option.some.inj K
  exact jx_zret (pc := 130) rfl hg HQ
/-- AndGuest$Standing.readImage(LAndGuest$Tape;I)Z -/
noncomputable def fSd_readImage (o : Nat) (v1 : Nat) (v2 : Int32) (h : jH) : Option (Int32 × jH) :=
  (if (fTp_size v1 h) = (fSd_imageSize v2) then
  (Option.bind (fTp_byteAt v1 ((fSd_imageSize v2) - 1) h) (fun (z4 : Int32) =>
  (Option.bind (fTp_checkOf v1 ((fSd_imageSize v2) - 1) h) (fun (z5 : Int32) =>
  (if z4 = z5 then
  (Option.bind (fSd_clear o h) (fun (z7 : jH) =>
  (Option.bind (fTp_pairAt v1 0 z7) (fun (z8 : Int32) =>
  (Option.bind (fTp_pairAt v1 2 (jhI z7 o 0 z8)) (fun (z9 : Int32) =>
  (if z9 = 65535 then
  fSd_readImage_j65  o v1 v2 o (-1) (jhI z7 o 0 z8)
  else
  (Option.bind (fTp_pairAt v1 2 (jhI z7 o 0 z8)) (fun (z19 : Int32) =>
  fSd_readImage_j65  o v1 v2 o z19 (jhI z7 o 0 z8))))))))))
  else
  some (0, h))))))
  else
  some (0, h))
theorem kSd_readImage {X : jX} {dd : Nat} {p d : Nat} {q : Nat → Nat} {Q : Option Value → jS → Prop} {o : Nat} {v1 : Nat} {v2 : Int32} {h : jH} (hP : jOK p d q) (ho : jcl 176 o = 6) (hv1 : jcl 176 v1 = 2) (hd : 2 ≤ dd) {z : Int32 × jH} (K : fSd_readImage o v1 v2 h = some z) (HQ : Q (some (.int z.1)) (176, jRf p d q, z.2)) :
    jCa X dd 183 [.ref o, .ref v1, .int v2] (176, jRf p d q, h) Q := by
  obtain ⟨dd, rfl⟩ : ∃ d9, dd = d9 + 1 := ⟨dd - 1, by omega⟩
  unfold fSd_readImage at K
  refine jCa_of (es := jc_183) (pl := [some (.ref o), some (.ref v1), some (.int v2), none, none]) (M := jm_183) rfl rfl rfl rfl ?_
  refine jx_next (pc := 0) (pc' := 1) rfl rfl ?_
  refine jx_calls (pc := 1) rfl (Nat.le_of_ble_eq_true rfl) (Nat.le_of_ble_eq_true rfl) ?_
  refine kSd_imageSize  (by omega) rfl ?_
  refine jx_stin (pc := 4) (p2 := [some (.ref o), some (.ref v1), some (.int v2), some (.int (fSd_imageSize v2)), none]) rfl (jlt rfl) rfl ?_
  refine jx_next (pc := 5) (pc' := 6) rfl rfl ?_
  refine jx_callv (pc := 6) (o := v1) (rest := []) rfl ⟨by decide, by decide⟩ rfl hv1 (Nat.le_of_ble_eq_true rfl) ?_
  refine kTp_size hP hv1 (by omega) rfl ?_
  refine jx_next (pc := 9) (pc' := 10) rfl rfl ?_
  refine jx_icne (pc := 10) rfl (fun hc3 => ?_) (fun hc3 => ?_)
  · replace K := (if_pos hc3).symm.trans K
    refine jx_next (pc := 13) (pc' := 14) rfl rfl ?_
    refine jx_next (pc := 14) (pc' := 15) rfl rfl ?_
    refine jx_next (pc := 15) (pc' := 16) rfl rfl ?_
    refine jx_next (pc := 16) (pc' := 17) rfl rfl ?_
    refine jx_callv (pc := 17) (o := v1) (rest := []) rfl ⟨by decide, by decide⟩ rfl hv1 (Nat.le_of_ble_eq_true rfl) ?_
    obtain ⟨z4, hz_z4, K⟩ := Option.bind_eq_some_iff.mp K
    refine kTp_byteAt hP hv1 (by omega) hz_z4 ?_
    refine jx_next (pc := 20) (pc' := 21) rfl rfl ?_
    refine jx_next (pc := 21) (pc' := 22) rfl rfl ?_
    refine jx_next (pc := 22) (pc' := 23) rfl rfl ?_
    refine jx_next (pc := 23) (pc' := 24) rfl rfl ?_
    refine jx_callv (pc := 24) (o := v1) (rest := [.int z4]) rfl ⟨by decide, by decide⟩ rfl hv1 (Nat.le_of_ble_eq_true rfl) ?_
    obtain ⟨z5, hz_z5, K⟩ := Option.bind_eq_some_iff.mp K
    refine kTp_checkOf hP hv1 (by omega) hz_z5 ?_
    refine jx_iceq (pc := 27) rfl (fun hc6 => ?_) (fun hc6 => ?_)
    · replace K := (if_pos hc6).symm.trans K
      refine jx_next (pc := 32) (pc' := 33) rfl rfl ?_
      refine jx_callv (pc := 33) (o := o) (rest := []) rfl ⟨by decide, by decide⟩ rfl ho (Nat.le_of_ble_eq_true rfl) ?_
      obtain ⟨z7, hz_z7, K⟩ := Option.bind_eq_some_iff.mp K
      refine kSd_clear hP ho (by omega) hz_z7 ?_
      refine jx_next (pc := 36) (pc' := 37) rfl rfl ?_
      refine jx_next (pc := 37) (pc' := 38) rfl rfl ?_
      refine jx_next (pc := 38) (pc' := 39) rfl rfl ?_
      refine jx_callv (pc := 39) (o := v1) (rest := [.ref o]) rfl ⟨by decide, by decide⟩ rfl hv1 (Nat.le_of_ble_eq_true rfl) ?_
      obtain ⟨z8, hz_z8, K⟩ := Option.bind_eq_some_iff.mp K
      refine kTp_pairAt hP hv1 (by omega) hz_z8 ?_
      refine jx_puti (pc := 42) rfl ho ?_
      refine jx_next (pc := 45) (pc' := 46) rfl rfl ?_
      refine jx_next (pc := 46) (pc' := 47) rfl rfl ?_
      refine jx_next (pc := 47) (pc' := 48) rfl rfl ?_
      refine jx_callv (pc := 48) (o := v1) (rest := [.ref o]) rfl ⟨by decide, by decide⟩ rfl hv1 (Nat.le_of_ble_eq_true rfl) ?_
      obtain ⟨z9, hz_z9, K⟩ := Option.bind_eq_some_iff.mp K
      refine kTp_pairAt hP hv1 (by omega) hz_z9 ?_
      refine jx_next (pc := 51) (pc' := 53) rfl rfl ?_
      refine jx_icne (pc := 53) rfl (fun hc10 => ?_) (fun hc10 => ?_)
      · replace K := (if_pos hc10).symm.trans K
        refine jx_next (pc := 56) (pc' := 57) rfl rfl ?_
        refine jx_next (pc := 57) (pc' := 65) rfl rfl ?_
        refine jx_le (pl' := [some (.ref o), some (.ref v1), some (.int v2), none, none]) (jle_v (jle_v (jle_v (jle_n (jle_n jle_nil))))) ?_
        exact kSd_readImage_j65 hP ho hv1 ho hd K HQ
      · replace K := (if_neg hc10).symm.trans K
        refine jx_next (pc := 60) (pc' := 61) rfl rfl ?_
        refine jx_next (pc := 61) (pc' := 62) rfl rfl ?_
        refine jx_callv (pc := 62) (o := v1) (rest := [.ref o]) rfl ⟨by decide, by decide⟩ rfl hv1 (Nat.le_of_ble_eq_true rfl) ?_
        obtain ⟨z19, hz_z19, K⟩ := Option.bind_eq_some_iff.mp K
        refine kTp_pairAt hP hv1 (by omega) hz_z19 ?_
        refine jx_le (pl' := [some (.ref o), some (.ref v1), some (.int v2), none, none]) (jle_v (jle_v (jle_v (jle_n (jle_n jle_nil))))) ?_
        exact kSd_readImage_j65 hP ho hv1 ho hd K HQ
    · replace K := (if_neg hc6).symm.trans K
      refine jx_next (pc := 30) (pc' := 31) rfl rfl ?_
      obtain rfl := Option.some.inj K
      exact jx_zret (pc := 31) rfl (Or.inl rfl) HQ
  · replace K := (if_neg hc3).symm.trans K
    refine jx_next (pc := 30) (pc' := 31) rfl rfl ?_
    obtain rfl := Option.some.inj K
    exact jx_zret (pc := 31) rfl (Or.inl rfl) HQ
noncomputable def fA_on_j36 (p : Nat) (s0 : Int32) (h : jH) : Option (Int32 × jH) :=
  (if s0 = 0 then
  (Option.bind (fA_refuse 5 (fTp_cut 2 0 h)) (fun (z4 : jH) =>
  some (0, z4)))
  else
  (Option.bind (fSd_copyFrom 11 14 (fTp_cut 2 0 h)) (fun (z5 : jH) =>
  some (1, (fPa_clear z5)))))
theorem kA_on_j36 {X : jX} {dd : Nat} {p d : Nat} {q : Nat → Nat} {Q : Option Value → jS → Prop} {s0 : Int32} {h : jH} (hP : jOK p d q)  (hd : 3 ≤ (dd + 1)) {z : Int32 × jH} (K : fA_on_j36 p s0 h = some z) (HQ : Q (some (.int z.1)) (176, jRf p d q, z.2)) :
    jEx X (dd + 1) jc_182 36 [some (.ref 1), none] [.int s0] (176, jRf p d q, h) Q := by
  unfold fA_on_j36 at K
  refine jx_stin (pc := 36) (p2 := [some (.ref 1), some (.int s0)]) rfl (jlt rfl) rfl ?_
  refine jx_next (pc := 37) (pc' := 38) rfl rfl ?_
  refine jx_getr2 (pc := 38) rfl jko_1 jr_1_0 ?_
  refine jx_next (pc := 41) (pc' := 42) rfl rfl ?_
  refine jx_callv (pc := 42) (o := 2) (rest := []) rfl ⟨by decide, by decide⟩ rfl jko_2 (Nat.le_of_ble_eq_true rfl) ?_
  refine kTp_cut hP jko_2 (by omega) rfl ?_
  refine jx_next (pc := 45) (pc' := 46) rfl rfl ?_
  refine jx_ifne (pc := 46) rfl (fun hc3 => ?_) (fun hc3 => ?_)
  · replace K := (if_pos hc3).symm.trans K
    refine jx_next (pc := 49) (pc' := 50) rfl rfl ?_
    refine jx_next (pc := 50) (pc' := 51) rfl rfl ?_
    refine jx_callv (pc := 51) (o := 1) (rest := []) rfl ⟨by decide, by decide⟩ rfl jko_1 (Nat.le_of_ble_eq_true rfl) ?_
    obtain ⟨z4, hz_z4, K⟩ := Option.bind_eq_some_iff.mp K
    refine kA_refuse hP (by omega) hz_z4 ?_
    refine jx_next (pc := 54) (pc' := 55) rfl rfl ?_
    obtain rfl := Option.some.inj K
    exact jx_zret (pc := 55) rfl (Or.inl rfl) HQ
  · replace K := (if_neg hc3).symm.trans K
    refine jx_next (pc := 56) (pc' := 57) rfl rfl ?_
    refine jx_getr2 (pc := 57) rfl jko_1 jr_1_5 ?_
    refine jx_next (pc := 60) (pc' := 61) rfl rfl ?_
    refine jx_getr2 (pc := 61) rfl jko_1 jr_1_6 ?_
    refine jx_callv (pc := 64) (o := 11) (rest := []) rfl ⟨by decide, by decide⟩ rfl jko_11 (Nat.le_of_ble_eq_true rfl) ?_
    obtain ⟨z5, hz_z5, K⟩ := Option.bind_eq_some_iff.mp K
    refine kSd_copyFrom hP jko_11 jko_14 (by omega) hz_z5 ?_
    refine jx_next (pc := 67) (pc' := 68) rfl rfl ?_
    refine jx_getr2 (pc := 68) rfl jko_1 jr_1_7 ?_
    refine jx_callv (pc := 71) (o := 17) (rest := []) rfl ⟨by decide, by decide⟩ rfl jko_17 (Nat.le_of_ble_eq_true rfl) ?_
    refine kPa_clear hP (by omega) rfl ?_
    refine jx_next (pc := 74) (pc' := 75) rfl rfl ?_
    obtain rfl := Option.some.inj K
    exact jx_zret (pc := 75) rfl (Or.inr rfl) HQ
noncomputable def fA_on_j35 (p : Nat)  (h : jH) : Option (Int32 × jH) :=
  fA_on_j36  p 0 h
theorem kA_on_j35 {X : jX} {dd : Nat} {p d : Nat} {q : Nat → Nat} {Q : Option Value → jS → Prop}  {h : jH} (hP : jOK p d q)  (hd : 3 ≤ (dd + 1)) {z : Int32 × jH} (K : fA_on_j35 p  h = some z) (HQ : Q (some (.int z.1)) (176, jRf p d q, z.2)) :
    jEx X (dd + 1) jc_182 35 [some (.ref 1), none] [] (176, jRf p d q, h) Q := by
  unfold fA_on_j35 at K
  refine jx_next (pc := 35) (pc' := 36) rfl rfl ?_
  refine jx_le (pl' := [some (.ref 1), none]) (jle_v (jle_n jle_nil)) ?_
  exact kA_on_j36 hP  hd K HQ
/-- AndGuest.on()Z -/
noncomputable def fA_on (p : Nat)  (h : jH) : Option (Int32 × jH) :=
  (if (h.1 1 12) = 0 then
  fA_on_j35  p h
  else
  (Option.bind (fSd_readImage 14 2 (h.1 p 0) h) (fun (z8 : Int32 × jH) =>
  (if z8.1 = 0 then
  fA_on_j35  p z8.2
  else
  fA_on_j36  p 1 z8.2))))
theorem kA_on {X : jX} {dd : Nat} {p d : Nat} {q : Nat → Nat} {Q : Option Value → jS → Prop}  {h : jH} (hP : jOK p d q)  (hd : 3 ≤ dd) {z : Int32 × jH} (K : fA_on p  h = some z) (HQ : Q (some (.int z.1)) (176, jRf p d q, z.2)) :
    jCa X dd 182 [.ref 1] (176, jRf p d q, h) Q := by
  obtain ⟨dd, rfl⟩ : ∃ d9, dd = d9 + 1 := ⟨dd - 1, by omega⟩
  unfold fA_on at K
  refine jCa_of (es := jc_182) (pl := [some (.ref 1), none]) (M := jm_182) rfl rfl rfl rfl ?_
  refine jx_next (pc := 0) (pc' := 1) rfl rfl ?_
  refine jx_getz (pc := 1) rfl jko_1 ?_
  refine jx_ifeq (pc := 4) rfl (fun hc1 => ?_) (fun hc1 => ?_)
  · replace K := (if_pos hc1).symm.trans K
    refine jx_le (pl' := [some (.ref 1), none]) (jle_v (jle_n jle_nil)) ?_
    exact kA_on_j35 hP  hd K HQ
  · replace K := (if_neg hc1).symm.trans K
    refine jx_next (pc := 7) (pc' := 8) rfl rfl ?_
    refine jx_getr2 (pc := 8) rfl jko_1 jr_1_6 ?_
    refine jx_next (pc := 11) (pc' := 12) rfl rfl ?_
    refine jx_getr2 (pc := 12) rfl jko_1 jr_1_0 ?_
    refine jx_next (pc := 15) (pc' := 16) rfl rfl ?_
    refine jx_getr2 (pc := 16) rfl jko_1 jr_1_8 ?_
    refine jx_callv (pc := 19) (o := 79) (rest := [.ref 2, .ref 14]) rfl ⟨by decide, by decide⟩ rfl jko_79 (Nat.le_of_ble_eq_true rfl) ?_
    refine kPy_plan hP (by omega) rfl ?_
    refine jx_geti (pc := 22) rfl hP.1 ?_
    refine jx_callv (pc := 25) (o := 14) (rest := []) rfl ⟨by decide, by decide⟩ rfl jko_14 (Nat.le_of_ble_eq_true rfl) ?_
    obtain ⟨z8, hz_z8, K⟩ := Option.bind_eq_some_iff.mp K
    refine kSd_readImage hP jko_14 jko_2 (by omega) hz_z8 ?_
    refine jx_ifeq (pc := 28) rfl (fun hc9 => ?_) (fun hc9 => ?_)
    · replace K := (if_pos hc9).symm.trans K
      refine jx_le (pl' := [some (.ref 1), none]) (jle_v (jle_n jle_nil)) ?_
      exact kA_on_j35 hP  hd K HQ
    · replace K := (if_neg hc9).symm.trans K
      refine jx_next (pc := 31) (pc' := 32) rfl rfl ?_
      refine jx_next (pc := 32) (pc' := 36) rfl rfl ?_
      refine jx_le (pl' := [some (.ref 1), none]) (jle_v (jle_n jle_nil)) ?_
      exact kA_on_j36 hP  hd K HQ
/-- AndGuest.status(I)I -/
noncomputable def fA_status (v1 : Int32) (h : jH) : Option Int32 :=
  (if v1 < 0 then
  some ((-1) : Int32)
  else
  (if v1 < 6 then
  (if jin v1 6 then
  some (h.1 97 v1.toNatClampNeg : Int32)
  else none)
  else
  some ((-1) : Int32)))
theorem kA_status {X : jX} {dd : Nat} {p d : Nat} {q : Nat → Nat} {Q : Option Value → jS → Prop} {v1 : Int32} {h : jH} (hP : jOK p d q)  (hd : 0 ≤ dd) {z : Int32} (K : fA_status v1 h = some z) (HQ : Q (some (.int z)) (176, jRf p d q, h)) :
    jCa X dd 186 [.ref 1, .int v1] (176, jRf p d q, h) Q := by
  unfold fA_status at K
  refine jCa_of (es := jc_186) (pl := [some (.ref 1), some (.int v1)]) (M := jm_186) rfl rfl rfl rfl ?_
  refine jx_next (pc := 0) (pc' := 1) rfl rfl ?_
  refine jx_iflt (pc := 1) rfl (fun hc1 => ?_) (fun hc1 => ?_)
  · replace K := (if_pos hc1).symm.trans K
    refine jx_next (pc := 22) (pc' := 23) rfl rfl ?_
    obtain rfl := Option.some.inj K
    exact jx_iret (pc := 23) rfl HQ
  · replace K := (if_neg hc1).symm.trans K
    refine jx_next (pc := 4) (pc' := 5) rfl rfl ?_
    refine jx_next (pc := 5) (pc' := 6) rfl rfl ?_
    refine jx_getr2 (pc := 6) rfl jko_1 jr_1_10 ?_
    refine jx_alen2 (pc := 9) rfl jko_97 ⟨by decide, by decide⟩ (congrArg Int32.ofNat jno_97) ?_
    refine jx_icge (pc := 10) rfl (fun hc2 => ?_) (fun hc2 => ?_)
    · replace K := (if_pos hc2).symm.trans K
      refine jx_next (pc := 13) (pc' := 14) rfl rfl ?_
      refine jx_getr2 (pc := 14) rfl jko_1 jr_1_10 ?_
      refine jx_next (pc := 17) (pc' := 18) rfl rfl ?_
      obtain ⟨hg3, K⟩ := jguard K
      refine jx_iald2 (pc := 18) rfl jko_97 jno_97 hg3 ?_
      refine jx_next (pc := 19) (pc' := 23) rfl rfl ?_
      obtain rfl := Option.some.inj K
      exact jx_iret (pc := 23) rfl HQ
    · replace K := (if_neg hc2).symm.trans K
      refine jx_next (pc := 22) (pc' := 23) rfl rfl ?_
      obtain rfl := Option.some.inj K
      exact jx_iret (pc := 23) rfl HQ
noncomputable def fM_feed_l28_j81 (v1 : Int32) (v2 : Int32) (v3 : Int32) (v4 : Int32) (v5 : Int32) (v6 : Int32) (s0 : Int32) (h : jH) : Option ((Int32 × jH) ⊕ (jH)) :=
  (if jin (h.1 110 1) 1600 then
  some (.inl (v6 + 1, jhI (jhI h 111 (h.1 110 1).toNatClampNeg ((s0 >>> ((8 * (3 - (v6 - v6 / 4 * 4))) &&& 31)) &&& 255)) 110 1 (((jhI h 111 (h.1 110 1).toNatClampNeg ((s0 >>> ((8 * (3 - (v6 - v6 / 4 * 4))) &&& 31)) &&& 255)).1 110 1) + 1)))
  else none)
theorem kM_feed_l28_j81 {X : jX} {dd : Nat} {p d : Nat} {q : Nat → Nat} {Q : Option Value → jS → Prop} {v1 : Int32} {v2 : Int32} {v3 : Int32} {v4 : Int32} {v5 : Int32} {v6 : Int32} {s0 : Int32} {h : jH}  (hd : 0 ≤ dd) {z : (Int32 × jH) ⊕ (jH)} (K : fM_feed_l28_j81 v1 v2 v3 v4 v5 v6 s0 h = some z) (HL : ∀ s : Int32 × jH, z = .inl s → jEx X dd jc_187 28 [some (.ref 110), some (.int v1), some (.int v2), some (.int v3), some (.int v4), some (.int v5), some (.int s.1), none] [] (176, jRf p d q, s.2) Q) (HE0 : ∀ x : jH, z = .inr x → jEx X dd jc_187 124 [some (.ref 110), none, none, none, none, none, none, none] [] (176, jRf p d q, x) Q) :
    jEx X dd jc_187 81 [some (.ref 110), some (.int v1), some (.int v2), some (.int v3), some (.int v4), some (.int v5), some (.int v6), none] [.int s0] (176, jRf p d q, h) Q := by
  unfold fM_feed_l28_j81 at K
  refine jx_sti (pc := 81) (p2 := [some (.ref 110), some (.int v1), some (.int v2), some (.int v3), some (.int v4), some (.int v5), some (.int v6), some (.int s0)]) rfl (jlt rfl) rfl ?_
  refine jx_next (pc := 83) (pc' := 84) rfl rfl ?_
  refine jx_getr2 (pc := 84) rfl jko_110 jr_12_0 ?_
  refine jx_next (pc := 87) (pc' := 88) rfl rfl ?_
  refine jx_geti (pc := 88) rfl jko_110 ?_
  refine jx_next (pc := 91) (pc' := 93) rfl rfl ?_
  refine jx_next (pc := 93) (pc' := 95) rfl rfl ?_
  refine jx_next (pc := 95) (pc' := 96) rfl rfl ?_
  refine jx_next (pc := 96) (pc' := 98) rfl rfl ?_
  refine jx_next (pc := 98) (pc' := 99) rfl rfl ?_
  refine jx_irem (pc := 99) rfl (by decide) ?_
  refine jx_next (pc := 100) (pc' := 101) rfl rfl ?_
  refine jx_next (pc := 101) (pc' := 102) rfl rfl ?_
  refine jx_next (pc := 102) (pc' := 103) rfl rfl ?_
  refine jx_next (pc := 103) (pc' := 106) rfl rfl ?_
  refine jx_next (pc := 106) (pc' := 107) rfl rfl ?_
  obtain ⟨hg6, K⟩ := jguard K
  refine jx_iast2 (pc := 107) rfl jko_111 jno_111 hg6 ?_
  refine jx_next (pc := 108) (pc' := 109) rfl rfl ?_
  refine jx_next (pc := 109) (pc' := 110) rfl rfl ?_
  refine jx_geti (pc := 110) rfl jko_110 ?_
  refine jx_next (pc := 113) (pc' := 114) rfl rfl ?_
  refine jx_next (pc := 114) (pc' := 115) rfl rfl ?_
  refine jx_puti (pc := 115) rfl jko_110 ?_
  refine jx_inc (pc := 118) (x := v6) (p2 := [some (.ref 110), some (.int v1), some (.int v2), some (.int v3), some (.int v4), some (.int v5), some (.int (v6 + 1)), some (.int s0)]) rfl rfl (jlt rfl) rfl ?_
  refine jx_next (pc := 121) (pc' := 28) rfl rfl ?_
  obtain rfl := Option.some.inj K
  refine jx_le (pl' := [some (.ref 110), some (.int v1), some (.int v2), some (.int v3), some (.int v4), some (.int v5), some (.int (v6 + 1)), none]) (jle_v (jle_v (jle_v (jle_v (jle_v (jle_v (jle_v (jle_n jle_nil)))))))) ?_
  exact HL (v6 + 1, jhI (jhI h 111 (h.1 110 1).toNatClampNeg ((s0 >>> ((8 * (3 - (v6 - v6 / 4 * 4))) &&& 31)) &&& 255)) 110 1 (((jhI h 111 (h.1 110 1).toNatClampNeg ((s0 >>> ((8 * (3 - (v6 - v6 / 4 * 4))) &&& 31)) &&& 255)).1 110 1) + 1)) rfl
noncomputable def fM_feed_l28_b (v1 : Int32) (v2 : Int32) (v3 : Int32) (v4 : Int32) (v5 : Int32) (v6 : Int32) (h : jH) : Option ((Int32 × jH) ⊕ (jH)) :=
  (if v6 < 20 then
  (if v6 < 4 then
  fM_feed_l28_j81  v1 v2 v3 v4 v5 v6 v1 h
  else
  (if v6 < 8 then
  fM_feed_l28_j81  v1 v2 v3 v4 v5 v6 v2 h
  else
  (if v6 < 12 then
  fM_feed_l28_j81  v1 v2 v3 v4 v5 v6 v3 h
  else
  (if v6 < 16 then
  fM_feed_l28_j81  v1 v2 v3 v4 v5 v6 v4 h
  else
  fM_feed_l28_j81  v1 v2 v3 v4 v5 v6 v5 h))))
  else
  some (.inr h))
noncomputable def fM_feed_l28 (v1 : Int32) (v2 : Int32) (v3 : Int32) (v4 : Int32) (v5 : Int32) : (Int32 × jH) → Option ((Int32 × jH) ⊕ (jH)) :=
  fun (s : Int32 × jH) => fM_feed_l28_b v1 v2 v3 v4 v5 s.1 s.2
theorem kM_feed_l28_b {X : jX} {dd : Nat} {p d : Nat} {q : Nat → Nat} {Q : Option Value → jS → Prop} {v1 : Int32} {v2 : Int32} {v3 : Int32} {v4 : Int32} {v5 : Int32} {v6 : Int32} {h : jH}  (hd : 0 ≤ dd) {z : (Int32 × jH) ⊕ (jH)} (K : fM_feed_l28_b v1 v2 v3 v4 v5 v6 h = some z) (HL : ∀ s : Int32 × jH, z = .inl s → jEx X dd jc_187 28 [some (.ref 110), some (.int v1), some (.int v2), some (.int v3), some (.int v4), some (.int v5), some (.int s.1), none] [] (176, jRf p d q, s.2) Q) (HE0 : ∀ x : jH, z = .inr x → jEx X dd jc_187 124 [some (.ref 110), none, none, none, none, none, none, none] [] (176, jRf p d q, x) Q) :
    jEx X dd jc_187 28 [some (.ref 110), some (.int v1), some (.int v2), some (.int v3), some (.int v4), some (.int v5), some (.int v6), none] [] (176, jRf p d q, h) Q := by
  unfold fM_feed_l28_b at K
  refine jx_next (pc := 28) (pc' := 30) rfl rfl ?_
  refine jx_next (pc := 30) (pc' := 32) rfl rfl ?_
  refine jx_icge (pc := 32) rfl (fun hc4 => ?_) (fun hc4 => ?_)
  · replace K := (if_pos hc4).symm.trans K
    refine jx_next (pc := 35) (pc' := 37) rfl rfl ?_
    refine jx_next (pc := 37) (pc' := 38) rfl rfl ?_
    refine jx_icge (pc := 38) rfl (fun hc5 => ?_) (fun hc5 => ?_)
    · replace K := (if_pos hc5).symm.trans K
      refine jx_next (pc := 41) (pc' := 42) rfl rfl ?_
      refine jx_next (pc := 42) (pc' := 81) rfl rfl ?_
      refine jx_le (pl' := [some (.ref 110), some (.int v1), some (.int v2), some (.int v3), some (.int v4), some (.int v5), some (.int v6), none]) (jle_v (jle_v (jle_v (jle_v (jle_v (jle_v (jle_v (jle_n jle_nil)))))))) ?_
      exact kM_feed_l28_j81  hd K HL HE0
    · replace K := (if_neg hc5).symm.trans K
      refine jx_next (pc := 45) (pc' := 47) rfl rfl ?_
      refine jx_next (pc := 47) (pc' := 49) rfl rfl ?_
      refine jx_icge (pc := 49) rfl (fun hc7 => ?_) (fun hc7 => ?_)
      · replace K := (if_pos hc7).symm.trans K
        refine jx_next (pc := 52) (pc' := 53) rfl rfl ?_
        refine jx_next (pc := 53) (pc' := 81) rfl rfl ?_
        refine jx_le (pl' := [some (.ref 110), some (.int v1), some (.int v2), some (.int v3), some (.int v4), some (.int v5), some (.int v6), none]) (jle_v (jle_v (jle_v (jle_v (jle_v (jle_v (jle_v (jle_n jle_nil)))))))) ?_
        exact kM_feed_l28_j81  hd K HL HE0
      · replace K := (if_neg hc7).symm.trans K
        refine jx_next (pc := 56) (pc' := 58) rfl rfl ?_
        refine jx_next (pc := 58) (pc' := 60) rfl rfl ?_
        refine jx_icge (pc := 60) rfl (fun hc8 => ?_) (fun hc8 => ?_)
        · replace K := (if_pos hc8).symm.trans K
          refine jx_next (pc := 63) (pc' := 64) rfl rfl ?_
          refine jx_next (pc := 64) (pc' := 81) rfl rfl ?_
          refine jx_le (pl' := [some (.ref 110), some (.int v1), some (.int v2), some (.int v3), some (.int v4), some (.int v5), some (.int v6), none]) (jle_v (jle_v (jle_v (jle_v (jle_v (jle_v (jle_v (jle_n jle_nil)))))))) ?_
          exact kM_feed_l28_j81  hd K HL HE0
        · replace K := (if_neg hc8).symm.trans K
          refine jx_next (pc := 67) (pc' := 69) rfl rfl ?_
          refine jx_next (pc := 69) (pc' := 71) rfl rfl ?_
          refine jx_icge (pc := 71) rfl (fun hc9 => ?_) (fun hc9 => ?_)
          · replace K := (if_pos hc9).symm.trans K
            refine jx_next (pc := 74) (pc' := 76) rfl rfl ?_
            refine jx_next (pc := 76) (pc' := 81) rfl rfl ?_
            refine jx_le (pl' := [some (.ref 110), some (.int v1), some (.int v2), some (.int v3), some (.int v4), some (.int v5), some (.int v6), none]) (jle_v (jle_v (jle_v (jle_v (jle_v (jle_v (jle_v (jle_n jle_nil)))))))) ?_
            exact kM_feed_l28_j81  hd K HL HE0
          · replace K := (if_neg hc9).symm.trans K
            refine jx_next (pc := 79) (pc' := 81) rfl rfl ?_
            refine jx_le (pl' := [some (.ref 110), some (.int v1), some (.int v2), some (.int v3), some (.int v4), some (.int v5), some (.int v6), none]) (jle_v (jle_v (jle_v (jle_v (jle_v (jle_v (jle_v (jle_n jle_nil)))))))) ?_
            exact kM_feed_l28_j81  hd K HL HE0
  · replace K := (if_neg hc4).symm.trans K
    obtain rfl := Option.some.inj K
    refine jx_le (pl' := [some (.ref 110), none, none, none, none, none, none, none]) (jle_v (jle_n (jle_n (jle_n (jle_n (jle_n (jle_n (jle_n jle_nil)))))))) ?_
    exact HE0 _ rfl
theorem kM_feed_l28_w {X : jX} {dd : Nat} {p d : Nat} {q : Nat → Nat} {Q : Option Value → jS → Prop} {v1 : Int32} {v2 : Int32} {v3 : Int32} {v4 : Int32} {v5 : Int32}  (hd : 0 ≤ dd) {s : Int32 × jH} {x : jH} (K : jlim (fM_feed_l28 v1 v2 v3 v4 v5) s = some x) (HE : jEx X dd jc_187 124 [some (.ref 110), none, none, none, none, none, none, none] [] (176, jRf p d q, x) Q) :
    jEx X dd jc_187 28 [some (.ref 110), some (.int v1), some (.int v2), some (.int v3), some (.int v4), some (.int v5), some (.int s.1), none] [] (176, jRf p d q, s.2) Q := by
  refine jlim_ok (G := fun s : Int32 × jH => jEx X dd jc_187 28 [some (.ref 110), some (.int v1), some (.int v2), some (.int v3), some (.int v4), some (.int v5), some (.int s.1), none] [] (176, jRf p d q, s.2) Q) (GX := fun x : jH => jEx X dd jc_187 124 [some (.ref 110), none, none, none, none, none, none, none] [] (176, jRf p d q, x) Q) (fun s z hz HL HE => ?_) K HE
  exact kM_feed_l28_b  hd hz HL HE
/-- AndGuestModel.feed(IIIII)I -/
noncomputable def fM_feed (v1 : Int32) (v2 : Int32) (v3 : Int32) (v4 : Int32) (v5 : Int32) (h : jH) : Option (Int32 × jH) :=
  (if 1600 < ((h.1 110 1) + 20) then
  (if jin 0 6 then
  (if jin 0 6 then
  some ((-1), jhI h 112 (0 : Int32).toNatClampNeg ((h.1 112 (0 : Int32).toNatClampNeg) + 1))
  else none)
  else none)
  else
  (Option.bind (jlim (fM_feed_l28  v1 v2 v3 v4 v5) (0, h)) (fun (x10 : jH) =>
  some (x10.1 110 1, x10))))
theorem kM_feed {X : jX} {dd : Nat} {p d : Nat} {q : Nat → Nat} {Q : Option Value → jS → Prop} {v1 : Int32} {v2 : Int32} {v3 : Int32} {v4 : Int32} {v5 : Int32} {h : jH}  (hd : 0 ≤ dd) {z : Int32 × jH} (K : fM_feed v1 v2 v3 v4 v5 h = some z) (HQ : Q (some (.int z.1)) (176, jRf p d q, z.2)) :
    jCa X dd 187 [.ref 110, .int v1, .int v2, .int v3, .int v4, .int v5] (176, jRf p d q, h) Q := by
  unfold fM_feed at K
  refine jCa_of (es := jc_187) (pl := [some (.ref 110), some (.int v1), some (.int v2), some (.int v3), some (.int v4), some (.int v5), none, none]) (M := jm_187) rfl rfl rfl rfl ?_
  refine jx_next (pc := 0) (pc' := 1) rfl rfl ?_
  refine jx_geti (pc := 1) rfl jko_110 ?_
  refine jx_next (pc := 4) (pc' := 6) rfl rfl ?_
  refine jx_next (pc := 6) (pc' := 7) rfl rfl ?_
  refine jx_next (pc := 7) (pc' := 10) rfl rfl ?_
  refine jx_icle (pc := 10) rfl (fun hc1 => ?_) (fun hc1 => ?_)
  · replace K := (if_pos hc1).symm.trans K
    refine jx_next (pc := 13) (pc' := 14) rfl rfl ?_
    refine jx_getr2 (pc := 14) rfl jko_110 jr_12_9 ?_
    refine jx_next (pc := 17) (pc' := 18) rfl rfl ?_
    refine jx_next (pc := 18) (pc' := 19) rfl rfl ?_
    obtain ⟨hg2, K⟩ := jguard K
    refine jx_iald2 (pc := 19) rfl jko_112 jno_112 hg2 ?_
    refine jx_next (pc := 20) (pc' := 21) rfl rfl ?_
    refine jx_next (pc := 21) (pc' := 22) rfl rfl ?_
    obtain ⟨hg3, K⟩ := jguard K
    refine jx_iast2 (pc := 22) rfl jko_112 jno_112 hg3 ?_
    refine jx_next (pc := 23) (pc' := 24) rfl rfl ?_
    obtain rfl := Option.some.inj K
    exact jx_iret (pc := 24) rfl HQ
  · replace K := (if_neg hc1).symm.trans K
    refine jx_next (pc := 25) (pc' := 26) rfl rfl ?_
    refine jx_sti (pc := 26) (p2 := [some (.ref 110), some (.int v1), some (.int v2), some (.int v3), some (.int v4), some (.int v5), some (.int 0), none]) rfl (jlt rfl) rfl ?_
    refine jx_le (pl' := [some (.ref 110), some (.int v1), some (.int v2), some (.int v3), some (.int v4), some (.int v5), some (.int 0), none]) (jle_v (jle_v (jle_v (jle_v (jle_v (jle_v (jle_v (jle_n jle_nil)))))))) ?_
    obtain ⟨x10, hz_x10, K⟩ := Option.bind_eq_some_iff.mp K
    refine kM_feed_l28_w  hd hz_x10 ?_
    refine jx_next (pc := 124) (pc' := 125) rfl rfl ?_
    refine jx_geti (pc := 125) rfl jko_110 ?_
    obtain rfl := Option.some.inj K
    exact jx_iret (pc := 128) rfl HQ
