/-- AndGuest.answers(I)I -/
noncomputable def fA_answers (p : Nat) (v1 : Int32) (h : jH) : Option Int32 :=
  (if (h.1 1 12) = 0 then
  some ((-1) : Int32)
  else
  (if v1 < 0 then
  some ((-1) : Int32)
  else
  (if 8 < v1 then
  some ((-1) : Int32)
  else
  (Option.bind (fSd_countOf 11 1 h) (fun (z4 : Int32) =>
  (Option.bind (fCr_someOf z4 v1 (h.1 p 8) h) (fun (z6 : Int64) =>
  some (z6.toInt32 : Int32))))))))
theorem kA_answers {X : jX} {dd : Nat} {p d : Nat} {q : Nat → Nat} {Q : Option Value → jS → Prop} {v1 : Int32} {h : jH} (hP : jOK p d q)  (hd : 1 ≤ dd) {z : Int32} (K : fA_answers p v1 h = some z) (HQ : Q (some (.int z)) (176, jRf p d q, h)) :
    jCa X dd 109 [.ref 1, .int v1] (176, jRf p d q, h) Q := by
  obtain ⟨dd, rfl⟩ : ∃ d9, dd = d9 + 1 := ⟨dd - 1, by omega⟩
  unfold fA_answers at K
  refine jCa_of (es := jc_109) (pl := [some (.ref 1), some (.int v1)]) (M := jm_109) rfl rfl rfl rfl ?_
  refine jx_next (pc := 0) (pc' := 1) rfl rfl ?_
  refine jx_getz (pc := 1) rfl jko_1 ?_
  refine jx_ifeq (pc := 4) rfl (fun hc1 => ?_) (fun hc1 => ?_)
  · replace K := (if_pos hc1).symm.trans K
    refine jx_next (pc := 17) (pc' := 18) rfl rfl ?_
    obtain rfl := Option.some.inj K
    exact jx_iret (pc := 18) rfl HQ
  · replace K := (if_neg hc1).symm.trans K
    refine jx_next (pc := 7) (pc' := 8) rfl rfl ?_
    refine jx_iflt (pc := 8) rfl (fun hc2 => ?_) (fun hc2 => ?_)
    · replace K := (if_pos hc2).symm.trans K
      refine jx_next (pc := 17) (pc' := 18) rfl rfl ?_
      obtain rfl := Option.some.inj K
      exact jx_iret (pc := 18) rfl HQ
    · replace K := (if_neg hc2).symm.trans K
      refine jx_next (pc := 11) (pc' := 12) rfl rfl ?_
      refine jx_next (pc := 12) (pc' := 14) rfl rfl ?_
      refine jx_icle (pc := 14) rfl (fun hc3 => ?_) (fun hc3 => ?_)
      · replace K := (if_pos hc3).symm.trans K
        refine jx_next (pc := 17) (pc' := 18) rfl rfl ?_
        obtain rfl := Option.some.inj K
        exact jx_iret (pc := 18) rfl HQ
      · replace K := (if_neg hc3).symm.trans K
        refine jx_next (pc := 19) (pc' := 20) rfl rfl ?_
        refine jx_getr2 (pc := 20) rfl jko_1 jr_1_5 ?_
        refine jx_next (pc := 23) (pc' := 24) rfl rfl ?_
        refine jx_callv (pc := 24) (o := 11) (rest := []) rfl ⟨by decide, by decide⟩ rfl jko_11 (Nat.le_of_ble_eq_true rfl) ?_
        obtain ⟨z4, hz_z4, K⟩ := Option.bind_eq_some_iff.mp K
        refine kSd_countOf hP jko_11 (by omega) hz_z4 ?_
        refine jx_next (pc := 27) (pc' := 28) rfl rfl ?_
        refine jx_next (pc := 28) (pc' := 29) rfl rfl ?_
        refine jx_getr2 (pc := 29) rfl jko_1 jr_1_8 ?_
        refine jx_callv (pc := 32) (o := 79) (rest := [.int v1, .int z4]) rfl ⟨by decide, by decide⟩ rfl jko_79 (Nat.le_of_ble_eq_true rfl) ?_
        refine kPy_plan hP (by omega) rfl ?_
        refine jx_geti (pc := 35) rfl hP.1 ?_
        refine jx_calls (pc := 38) rfl (Nat.le_of_ble_eq_true rfl) (Nat.le_of_ble_eq_true rfl) ?_
        obtain ⟨z6, hz_z6, K⟩ := Option.bind_eq_some_iff.mp K
        refine kCr_someOf hP (by omega) hz_z6 ?_
        refine jx_next (pc := 41) (pc' := 42) rfl rfl ?_
        obtain rfl := Option.some.inj K
        exact jx_iret (pc := 42) rfl HQ
/-- AndGuest$Party.comesWith(II)I -/
noncomputable def fPy_comesWith (p : Nat) (v1 : Int32) (v2 : Int32) (h : jH) : Option Int32 :=
  (if v2 < 0 then
  some (0 : Int32)
  else
  (if v2 < 8 then
  (if ((v1 >>> (v2 &&& 31)) &&& 1) = 1 then
  (if jin v2 8 then
  some (h.1 (p + 2) v2.toNatClampNeg : Int32)
  else none)
  else
  (Option.bind (fPy_comesNow p v2 h) (fun (z5 : Int32) =>
  some (z5 : Int32))))
  else
  some (0 : Int32)))
theorem kPy_comesWith {X : jX} {dd : Nat} {p d : Nat} {q : Nat → Nat} {Q : Option Value → jS → Prop} {v1 : Int32} {v2 : Int32} {h : jH} (hP : jOK p d q)  (hd : 1 ≤ dd) {z : Int32} (K : fPy_comesWith p v1 v2 h = some z) (HQ : Q (some (.int z)) (176, jRf p d q, h)) :
    jCa X dd 113 [.ref 79, .int v1, .int v2] (176, jRf p d q, h) Q := by
  obtain ⟨dd, rfl⟩ : ∃ d9, dd = d9 + 1 := ⟨dd - 1, by omega⟩
  unfold fPy_comesWith at K
  refine jCa_of (es := jc_113) (pl := [some (.ref 79), some (.int v1), some (.int v2)]) (M := jm_113) rfl rfl rfl rfl ?_
  refine jx_next (pc := 0) (pc' := 1) rfl rfl ?_
  refine jx_iflt (pc := 1) rfl (fun hc1 => ?_) (fun hc1 => ?_)
  · replace K := (if_pos hc1).symm.trans K
    refine jx_next (pc := 10) (pc' := 11) rfl rfl ?_
    obtain rfl := Option.some.inj K
    exact jx_iret (pc := 11) rfl HQ
  · replace K := (if_neg hc1).symm.trans K
    refine jx_next (pc := 4) (pc' := 5) rfl rfl ?_
    refine jx_next (pc := 5) (pc' := 7) rfl rfl ?_
    refine jx_iclt (pc := 7) rfl (fun hc2 => ?_) (fun hc2 => ?_)
    · replace K := (if_pos hc2).symm.trans K
      refine jx_next (pc := 12) (pc' := 13) rfl rfl ?_
      refine jx_next (pc := 13) (pc' := 14) rfl rfl ?_
      refine jx_next (pc := 14) (pc' := 15) rfl rfl ?_
      refine jx_next (pc := 15) (pc' := 16) rfl rfl ?_
      refine jx_next (pc := 16) (pc' := 17) rfl rfl ?_
      refine jx_next (pc := 17) (pc' := 18) rfl rfl ?_
      refine jx_icne (pc := 18) rfl (fun hc3 => ?_) (fun hc3 => ?_)
      · replace K := (if_pos hc3).symm.trans K
        refine jx_next (pc := 21) (pc' := 22) rfl rfl ?_
        refine jx_getr2 (pc := 22) rfl jko_79 jr_8_4 ?_
        refine jx_getr2 (pc := 25) rfl hP.1 (jrm_10_11 hP.1) ?_
        refine jx_next (pc := 28) (pc' := 29) rfl rfl ?_
        obtain ⟨hg4, K⟩ := jguard K
        refine jx_iald2 (pc := 29) rfl (jkm_10_11 hP.1) (jnm_10_11 hP.1) hg4 ?_
        refine jx_next (pc := 30) (pc' := 38) rfl rfl ?_
        obtain rfl := Option.some.inj K
        exact jx_iret (pc := 38) rfl HQ
      · replace K := (if_neg hc3).symm.trans K
        refine jx_next (pc := 33) (pc' := 34) rfl rfl ?_
        refine jx_next (pc := 34) (pc' := 35) rfl rfl ?_
        refine jx_callv (pc := 35) (o := 79) (rest := []) rfl ⟨by decide, by decide⟩ rfl jko_79 (Nat.le_of_ble_eq_true rfl) ?_
        obtain ⟨z5, hz_z5, K⟩ := Option.bind_eq_some_iff.mp K
        refine kPy_comesNow hP (by omega) hz_z5 ?_
        obtain rfl := Option.some.inj K
        exact jx_iret (pc := 38) rfl HQ
    · replace K := (if_neg hc2).symm.trans K
      refine jx_next (pc := 10) (pc' := 11) rfl rfl ?_
      obtain rfl := Option.some.inj K
      exact jx_iret (pc := 11) rfl HQ
noncomputable def fPy_meanTenths_l4_b (p : Nat) (v1 : Int32) (v2 : Int32) (v3 : Int32) (h : jH) : Option ((Int32 × Int32) ⊕ (Int32)) :=
  (if v3 < (h.1 p 0) then
  (if v3 < 8 then
  (Option.bind (fPy_comesWith p v1 v3 h) (fun (z3 : Int32) =>
  (if jin v3 8 then
  some (.inl (v2 + (z3 * (h.1 (p + 4) v3.toNatClampNeg)), v3 + 1))
  else none)))
  else
  some (.inr v2))
  else
  some (.inr v2))
noncomputable def fPy_meanTenths_l4 (p : Nat) (v1 : Int32) (h : jH) : (Int32 × Int32) → Option ((Int32 × Int32) ⊕ (Int32)) :=
  fun (s : Int32 × Int32) => fPy_meanTenths_l4_b p v1 s.1 s.2 h
theorem kPy_meanTenths_l4_b {X : jX} {dd : Nat} {p d : Nat} {q : Nat → Nat} {Q : Option Value → jS → Prop} {v1 : Int32} {v2 : Int32} {v3 : Int32} {h : jH} (hP : jOK p d q)  (hd : 2 ≤ (dd + 1)) {z : (Int32 × Int32) ⊕ (Int32)} (K : fPy_meanTenths_l4_b p v1 v2 v3 h = some z) (HL : ∀ s : Int32 × Int32, z = .inl s → jEx X (dd + 1) jc_112 4 [some (.ref 79), some (.int v1), some (.int s.1), some (.int s.2)] [] (176, jRf p d q, h) Q) (HE0 : ∀ x : Int32, z = .inr x → jEx X (dd + 1) jc_112 46 [none, none, some (.int x), none] [] (176, jRf p d q, h) Q) :
    jEx X (dd + 1) jc_112 4 [some (.ref 79), some (.int v1), some (.int v2), some (.int v3)] [] (176, jRf p d q, h) Q := by
  unfold fPy_meanTenths_l4_b at K
  refine jx_next (pc := 4) (pc' := 5) rfl rfl ?_
  refine jx_next (pc := 5) (pc' := 6) rfl rfl ?_
  refine jx_getr2 (pc := 6) rfl jko_79 jr_8_4 ?_
  refine jx_geti (pc := 9) rfl hP.1 ?_
  refine jx_icge (pc := 12) rfl (fun hc1 => ?_) (fun hc1 => ?_)
  · replace K := (if_pos hc1).symm.trans K
    refine jx_next (pc := 15) (pc' := 16) rfl rfl ?_
    refine jx_next (pc := 16) (pc' := 18) rfl rfl ?_
    refine jx_icge (pc := 18) rfl (fun hc2 => ?_) (fun hc2 => ?_)
    · replace K := (if_pos hc2).symm.trans K
      refine jx_next (pc := 21) (pc' := 22) rfl rfl ?_
      refine jx_next (pc := 22) (pc' := 23) rfl rfl ?_
      refine jx_next (pc := 23) (pc' := 24) rfl rfl ?_
      refine jx_next (pc := 24) (pc' := 25) rfl rfl ?_
      refine jx_callv (pc := 25) (o := 79) (rest := [.int v2]) rfl ⟨by decide, by decide⟩ rfl jko_79 (Nat.le_of_ble_eq_true rfl) ?_
      obtain ⟨z3, hz_z3, K⟩ := Option.bind_eq_some_iff.mp K
      refine kPy_comesWith hP (by omega) hz_z3 ?_
      refine jx_next (pc := 28) (pc' := 29) rfl rfl ?_
      refine jx_getr2 (pc := 29) rfl jko_79 jr_8_4 ?_
      refine jx_getr2 (pc := 32) rfl hP.1 (jrm_10_13 hP.1) ?_
      refine jx_next (pc := 35) (pc' := 36) rfl rfl ?_
      obtain ⟨hg4, K⟩ := jguard K
      refine jx_iald2 (pc := 36) rfl (jkm_10_13 hP.1) (jnm_10_13 hP.1) hg4 ?_
      refine jx_next (pc := 37) (pc' := 38) rfl rfl ?_
      refine jx_next (pc := 38) (pc' := 39) rfl rfl ?_
      refine jx_stin (pc := 39) (p2 := [some (.ref 79), some (.int v1), some (.int (v2 + (z3 * (h.1 (p + 4) v3.toNatClampNeg)))), some (.int v3)]) rfl (jlt rfl) rfl ?_
      refine jx_inc (pc := 40) (x := v3) (p2 := [some (.ref 79), some (.int v1), some (.int (v2 + (z3 * (h.1 (p + 4) v3.toNatClampNeg)))), some (.int (v3 + 1))]) rfl rfl (jlt rfl) rfl ?_
      refine jx_next (pc := 43) (pc' := 4) rfl rfl ?_
      obtain rfl := Option.some.inj K
      refine jx_le (pl' := [some (.ref 79), some (.int v1), some (.int (v2 + (z3 * (h.1 (p + 4) v3.toNatClampNeg)))), some (.int (v3 + 1))]) (jle_v (jle_v (jle_v (jle_v jle_nil)))) ?_
      exact HL (v2 + (z3 * (h.1 (p + 4) v3.toNatClampNeg)), v3 + 1) rfl
    · replace K := (if_neg hc2).symm.trans K
      obtain rfl := Option.some.inj K
      refine jx_le (pl' := [none, none, some (.int v2), none]) (jle_n (jle_n (jle_v (jle_n jle_nil)))) ?_
      exact HE0 _ rfl
  · replace K := (if_neg hc1).symm.trans K
    obtain rfl := Option.some.inj K
    refine jx_le (pl' := [none, none, some (.int v2), none]) (jle_n (jle_n (jle_v (jle_n jle_nil)))) ?_
    exact HE0 _ rfl
theorem kPy_meanTenths_l4_w {X : jX} {dd : Nat} {p d : Nat} {q : Nat → Nat} {Q : Option Value → jS → Prop} {v1 : Int32} {h : jH} (hP : jOK p d q)  (hd : 2 ≤ (dd + 1)) {s : Int32 × Int32} {x : Int32} (K : jlim (fPy_meanTenths_l4 p v1 h) s = some x) (HE : jEx X (dd + 1) jc_112 46 [none, none, some (.int x), none] [] (176, jRf p d q, h) Q) :
    jEx X (dd + 1) jc_112 4 [some (.ref 79), some (.int v1), some (.int s.1), some (.int s.2)] [] (176, jRf p d q, h) Q := by
  refine jlim_ok (G := fun s : Int32 × Int32 => jEx X (dd + 1) jc_112 4 [some (.ref 79), some (.int v1), some (.int s.1), some (.int s.2)] [] (176, jRf p d q, h) Q) (GX := fun x : Int32 => jEx X (dd + 1) jc_112 46 [none, none, some (.int x), none] [] (176, jRf p d q, h) Q) (fun s z hz HL HE => ?_) K HE
  exact kPy_meanTenths_l4_b hP  hd hz HL HE
/-- AndGuest$Party.meanTenths(I)I -/
noncomputable def fPy_meanTenths (p : Nat) (v1 : Int32) (h : jH) : Option Int32 :=
  (Option.bind (jlim (fPy_meanTenths_l4  p v1 h) (0, 0)) (fun (x5 : Int32) =>
  some (x5 : Int32)))
theorem kPy_meanTenths {X : jX} {dd : Nat} {p d : Nat} {q : Nat → Nat} {Q : Option Value → jS → Prop} {v1 : Int32} {h : jH} (hP : jOK p d q)  (hd : 2 ≤ dd) {z : Int32} (K : fPy_meanTenths p v1 h = some z) (HQ : Q (some (.int z)) (176, jRf p d q, h)) :
    jCa X dd 112 [.ref 79, .int v1] (176, jRf p d q, h) Q := by
  obtain ⟨dd, rfl⟩ : ∃ d9, dd = d9 + 1 := ⟨dd - 1, by omega⟩
  unfold fPy_meanTenths at K
  refine jCa_of (es := jc_112) (pl := [some (.ref 79), some (.int v1), none, none]) (M := jm_112) rfl rfl rfl rfl ?_
  refine jx_next (pc := 0) (pc' := 1) rfl rfl ?_
  refine jx_stin (pc := 1) (p2 := [some (.ref 79), some (.int v1), some (.int 0), none]) rfl (jlt rfl) rfl ?_
  refine jx_next (pc := 2) (pc' := 3) rfl rfl ?_
  refine jx_stin (pc := 3) (p2 := [some (.ref 79), some (.int v1), some (.int 0), some (.int 0)]) rfl (jlt rfl) rfl ?_
  refine jx_le (pl' := [some (.ref 79), some (.int v1), some (.int 0), some (.int 0)]) (jle_v (jle_v (jle_v (jle_v jle_nil)))) ?_
  obtain ⟨x5, hz_x5, K⟩ := Option.bind_eq_some_iff.mp K
  refine kPy_meanTenths_l4_w hP  hd hz_x5 ?_
  refine jx_next (pc := 46) (pc' := 47) rfl rfl ?_
  obtain rfl := Option.some.inj K
  exact jx_iret (pc := 47) rfl HQ
/-- AndGuest.mean()I -/
noncomputable def fA_mean (p : Nat)  (h : jH) : Option Int32 :=
  (if (h.1 1 12) = 0 then
  some ((-1) : Int32)
  else
  (Option.bind (fPy_meanTenths p 0 h) (fun (z2 : Int32) =>
  some (z2 * 10 : Int32))))
theorem kA_mean {X : jX} {dd : Nat} {p d : Nat} {q : Nat → Nat} {Q : Option Value → jS → Prop}  {h : jH} (hP : jOK p d q)  (hd : 3 ≤ dd) {z : Int32} (K : fA_mean p  h = some z) (HQ : Q (some (.int z)) (176, jRf p d q, h)) :
    jCa X dd 111 [.ref 1] (176, jRf p d q, h) Q := by
  obtain ⟨dd, rfl⟩ : ∃ d9, dd = d9 + 1 := ⟨dd - 1, by omega⟩
  unfold fA_mean at K
  refine jCa_of (es := jc_111) (pl := [some (.ref 1)]) (M := jm_111) rfl rfl rfl rfl ?_
  refine jx_next (pc := 0) (pc' := 1) rfl rfl ?_
  refine jx_getz (pc := 1) rfl jko_1 ?_
  refine jx_ifeq (pc := 4) rfl (fun hc1 => ?_) (fun hc1 => ?_)
  · replace K := (if_pos hc1).symm.trans K
    refine jx_next (pc := 21) (pc' := 22) rfl rfl ?_
    obtain rfl := Option.some.inj K
    exact jx_iret (pc := 22) rfl HQ
  · replace K := (if_neg hc1).symm.trans K
    refine jx_next (pc := 7) (pc' := 8) rfl rfl ?_
    refine jx_getr2 (pc := 8) rfl jko_1 jr_1_8 ?_
    refine jx_next (pc := 11) (pc' := 12) rfl rfl ?_
    refine jx_callv (pc := 12) (o := 79) (rest := []) rfl ⟨by decide, by decide⟩ rfl jko_79 (Nat.le_of_ble_eq_true rfl) ?_
    obtain ⟨z2, hz_z2, K⟩ := Option.bind_eq_some_iff.mp K
    refine kPy_meanTenths hP (by omega) hz_z2 ?_
    refine jx_next (pc := 15) (pc' := 17) rfl rfl ?_
    refine jx_next (pc := 17) (pc' := 18) rfl rfl ?_
    refine jx_next (pc := 18) (pc' := 22) rfl rfl ?_
    obtain rfl := Option.some.inj K
    exact jx_iret (pc := 22) rfl HQ
noncomputable def fPy_offenceWith_l15_b (p : Nat) (v2 : Int32) (v3 : Int32) (v4 : Int32) (h : jH) : Option ((Int32 × Int32) ⊕ (Int32)) :=
  (if v4 < (h.1 p 0) then
  (Option.bind (fPy_offenceOf p v4 v2 h) (fun (z3 : Int32) =>
  some (.inl (v3 + z3, v4 + 1))))
  else
  some (.inr v3))
noncomputable def fPy_offenceWith_l15 (p : Nat) (v2 : Int32) (h : jH) : (Int32 × Int32) → Option ((Int32 × Int32) ⊕ (Int32)) :=
  fun (s : Int32 × Int32) => fPy_offenceWith_l15_b p v2 s.1 s.2 h
theorem kPy_offenceWith_l15_b {X : jX} {dd : Nat} {p d : Nat} {q : Nat → Nat} {Q : Option Value → jS → Prop} {v2 : Int32} {v3 : Int32} {v4 : Int32} {h : jH} (hP : jOK p d q)  (hd : 2 ≤ (dd + 1)) {z : (Int32 × Int32) ⊕ (Int32)} (K : fPy_offenceWith_l15_b p v2 v3 v4 h = some z) (HL : ∀ s : Int32 × Int32, z = .inl s → jEx X (dd + 1) jc_116 15 [some (.ref 79), none, some (.int v2), some (.int s.1), some (.int s.2)] [] (176, jRf p d q, h) Q) (HE0 : ∀ x : Int32, z = .inr x → jEx X (dd + 1) jc_116 43 [none, none, none, some (.int x), none] [] (176, jRf p d q, h) Q) :
    jEx X (dd + 1) jc_116 15 [some (.ref 79), none, some (.int v2), some (.int v3), some (.int v4)] [] (176, jRf p d q, h) Q := by
  unfold fPy_offenceWith_l15_b at K
  refine jx_next (pc := 15) (pc' := 17) rfl rfl ?_
  refine jx_next (pc := 17) (pc' := 18) rfl rfl ?_
  refine jx_getr2 (pc := 18) rfl jko_79 jr_8_4 ?_
  refine jx_geti (pc := 21) rfl hP.1 ?_
  refine jx_icge (pc := 24) rfl (fun hc2 => ?_) (fun hc2 => ?_)
  · replace K := (if_pos hc2).symm.trans K
    refine jx_next (pc := 27) (pc' := 28) rfl rfl ?_
    refine jx_next (pc := 28) (pc' := 29) rfl rfl ?_
    refine jx_next (pc := 29) (pc' := 31) rfl rfl ?_
    refine jx_next (pc := 31) (pc' := 32) rfl rfl ?_
    refine jx_callv (pc := 32) (o := 79) (rest := [.int v3]) rfl ⟨by decide, by decide⟩ rfl jko_79 (Nat.le_of_ble_eq_true rfl) ?_
    obtain ⟨z3, hz_z3, K⟩ := Option.bind_eq_some_iff.mp K
    refine kPy_offenceOf hP (by omega) hz_z3 ?_
    refine jx_next (pc := 35) (pc' := 36) rfl rfl ?_
    refine jx_stin (pc := 36) (p2 := [some (.ref 79), none, some (.int v2), some (.int (v3 + z3)), some (.int v4)]) rfl (jlt rfl) rfl ?_
    refine jx_inc (pc := 37) (x := v4) (p2 := [some (.ref 79), none, some (.int v2), some (.int (v3 + z3)), some (.int (v4 + 1))]) rfl rfl (jlt rfl) rfl ?_
    refine jx_next (pc := 40) (pc' := 15) rfl rfl ?_
    obtain rfl := Option.some.inj K
    refine jx_le (pl' := [some (.ref 79), none, some (.int v2), some (.int (v3 + z3)), some (.int (v4 + 1))]) (jle_v (jle_n (jle_v (jle_v (jle_v jle_nil))))) ?_
    exact HL (v3 + z3, v4 + 1) rfl
  · replace K := (if_neg hc2).symm.trans K
    obtain rfl := Option.some.inj K
    refine jx_le (pl' := [none, none, none, some (.int v3), none]) (jle_n (jle_n (jle_n (jle_v (jle_n jle_nil))))) ?_
    exact HE0 _ rfl
theorem kPy_offenceWith_l15_w {X : jX} {dd : Nat} {p d : Nat} {q : Nat → Nat} {Q : Option Value → jS → Prop} {v2 : Int32} {h : jH} (hP : jOK p d q)  (hd : 2 ≤ (dd + 1)) {s : Int32 × Int32} {x : Int32} (K : jlim (fPy_offenceWith_l15 p v2 h) s = some x) (HE : jEx X (dd + 1) jc_116 43 [none, none, none, some (.int x), none] [] (176, jRf p d q, h) Q) :
    jEx X (dd + 1) jc_116 15 [some (.ref 79), none, some (.int v2), some (.int s.1), some (.int s.2)] [] (176, jRf p d q, h) Q := by
  refine jlim_ok (G := fun s : Int32 × Int32 => jEx X (dd + 1) jc_116 15 [some (.ref 79), none, some (.int v2), some (.int s.1), some (.int s.2)] [] (176, jRf p d q, h) Q) (GX := fun x : Int32 => jEx X (dd + 1) jc_116 43 [none, none, none, some (.int x), none] [] (176, jRf p d q, h) Q) (fun s z hz HL HE => ?_) K HE
  exact kPy_offenceWith_l15_b hP  hd hz HL HE
/-- AndGuest$Party.offenceWith(I)I -/
noncomputable def fPy_offenceWith (p : Nat) (v1 : Int32) (h : jH) : Option Int32 :=
  (Option.bind (fSd_askedSet 11 h) (fun (z1 : Int32) =>
  (Option.bind (jlim (fPy_offenceWith_l15  p (z1 ||| v1) h) (0, 0)) (fun (x4 : Int32) =>
  some (x4 : Int32)))))
theorem kPy_offenceWith {X : jX} {dd : Nat} {p d : Nat} {q : Nat → Nat} {Q : Option Value → jS → Prop} {v1 : Int32} {h : jH} (hP : jOK p d q)  (hd : 2 ≤ dd) {z : Int32} (K : fPy_offenceWith p v1 h = some z) (HQ : Q (some (.int z)) (176, jRf p d q, h)) :
    jCa X dd 116 [.ref 79, .int v1] (176, jRf p d q, h) Q := by
  obtain ⟨dd, rfl⟩ : ∃ d9, dd = d9 + 1 := ⟨dd - 1, by omega⟩
  unfold fPy_offenceWith at K
  refine jCa_of (es := jc_116) (pl := [some (.ref 79), some (.int v1), none, none, none]) (M := jm_116) rfl rfl rfl rfl ?_
  refine jx_next (pc := 0) (pc' := 1) rfl rfl ?_
  refine jx_getr2 (pc := 1) rfl jko_79 jr_8_0 ?_
  refine jx_callv (pc := 4) (o := 11) (rest := []) rfl ⟨by decide, by decide⟩ rfl jko_11 (Nat.le_of_ble_eq_true rfl) ?_
  obtain ⟨z1, hz_z1, K⟩ := Option.bind_eq_some_iff.mp K
  refine kSd_askedSet hP jko_11 (by omega) hz_z1 ?_
  refine jx_next (pc := 7) (pc' := 8) rfl rfl ?_
  refine jx_next (pc := 8) (pc' := 9) rfl rfl ?_
  refine jx_stin (pc := 9) (p2 := [some (.ref 79), some (.int v1), some (.int (z1 ||| v1)), none, none]) rfl (jlt rfl) rfl ?_
  refine jx_next (pc := 10) (pc' := 11) rfl rfl ?_
  refine jx_stin (pc := 11) (p2 := [some (.ref 79), some (.int v1), some (.int (z1 ||| v1)), some (.int 0), none]) rfl (jlt rfl) rfl ?_
  refine jx_next (pc := 12) (pc' := 13) rfl rfl ?_
  refine jx_sti (pc := 13) (p2 := [some (.ref 79), some (.int v1), some (.int (z1 ||| v1)), some (.int 0), some (.int 0)]) rfl (jlt rfl) rfl ?_
  refine jx_le (pl' := [some (.ref 79), none, some (.int (z1 ||| v1)), some (.int 0), some (.int 0)]) (jle_v (jle_n (jle_v (jle_v (jle_v jle_nil))))) ?_
  obtain ⟨x4, hz_x4, K⟩ := Option.bind_eq_some_iff.mp K
  refine kPy_offenceWith_l15_w hP  hd hz_x4 ?_
  refine jx_next (pc := 43) (pc' := 44) rfl rfl ?_
  obtain rfl := Option.some.inj K
  exact jx_iret (pc := 44) rfl HQ
noncomputable def fCr_beyond_l5_j43 (v1 : Int32) (v2 : Int64) (v4 : Int32) (h : jH) : Option ((Int64 × Int32) ⊕ (Int64)) :=
  some (.inl (v2, v4 + 1))
theorem kCr_beyond_l5_j43 {X : jX} {dd : Nat} {p d : Nat} {q : Nat → Nat} {Q : Option Value → jS → Prop} {v1 : Int32} {v2 : Int64} {v4 : Int32} {h : jH} (hP : jOK p d q)  (hd : 0 ≤ dd) {z : (Int64 × Int32) ⊕ (Int64)} (K : fCr_beyond_l5_j43 v1 v2 v4 h = some z) (HL : ∀ s : Int64 × Int32, z = .inl s → jEx X dd jc_117 5 [some (.ref 80), some (.int v1), some (.long s.1), none, some (.int s.2)] [] (176, jRf p d q, h) Q) (HE0 : ∀ x : Int64, z = .inr x → jEx X dd jc_117 49 [none, none, some (.long x), none, none] [] (176, jRf p d q, h) Q) :
    jEx X dd jc_117 43 [some (.ref 80), some (.int v1), some (.long v2), none, some (.int v4)] [] (176, jRf p d q, h) Q := by
  unfold fCr_beyond_l5_j43 at K
  refine jx_inc (pc := 43) (x := v4) (p2 := [some (.ref 80), some (.int v1), some (.long v2), none, some (.int (v4 + 1))]) rfl rfl (jlt rfl) rfl ?_
  refine jx_next (pc := 46) (pc' := 5) rfl rfl ?_
  obtain rfl := Option.some.inj K
  refine jx_le (pl' := [some (.ref 80), some (.int v1), some (.long v2), none, some (.int (v4 + 1))]) (jle_v (jle_v (jle_v (jle_n (jle_v jle_nil))))) ?_
  exact HL (v2, v4 + 1) rfl
noncomputable def fCr_beyond_l5_b (v1 : Int32) (v2 : Int64) (v4 : Int32) (h : jH) : Option ((Int64 × Int32) ⊕ (Int64)) :=
  (if (h.1 80 1) < v4 then
  some (.inr v2)
  else
  (if 32 < v4 then
  some (.inr v2)
  else
  (if v1 < v4 then
  (if jin v4 33 then
  fCr_beyond_l5_j43  v1 (v2 + ((h.2 81 v4.toNatClampNeg) * ((v4 - v1).toInt64))) v4 h
  else none)
  else
  fCr_beyond_l5_j43  v1 v2 v4 h)))
noncomputable def fCr_beyond_l5 (v1 : Int32) (h : jH) : (Int64 × Int32) → Option ((Int64 × Int32) ⊕ (Int64)) :=
  fun (s : Int64 × Int32) => fCr_beyond_l5_b v1 s.1 s.2 h
theorem kCr_beyond_l5_b {X : jX} {dd : Nat} {p d : Nat} {q : Nat → Nat} {Q : Option Value → jS → Prop} {v1 : Int32} {v2 : Int64} {v4 : Int32} {h : jH} (hP : jOK p d q)  (hd : 0 ≤ dd) {z : (Int64 × Int32) ⊕ (Int64)} (K : fCr_beyond_l5_b v1 v2 v4 h = some z) (HL : ∀ s : Int64 × Int32, z = .inl s → jEx X dd jc_117 5 [some (.ref 80), some (.int v1), some (.long s.1), none, some (.int s.2)] [] (176, jRf p d q, h) Q) (HE0 : ∀ x : Int64, z = .inr x → jEx X dd jc_117 49 [none, none, some (.long x), none, none] [] (176, jRf p d q, h) Q) :
    jEx X dd jc_117 5 [some (.ref 80), some (.int v1), some (.long v2), none, some (.int v4)] [] (176, jRf p d q, h) Q := by
  unfold fCr_beyond_l5_b at K
  refine jx_next (pc := 5) (pc' := 7) rfl rfl ?_
  refine jx_next (pc := 7) (pc' := 8) rfl rfl ?_
  refine jx_geti (pc := 8) rfl jko_80 ?_
  refine jx_icgt (pc := 11) rfl (fun hc1 => ?_) (fun hc1 => ?_)
  · replace K := (if_pos hc1).symm.trans K
    obtain rfl := Option.some.inj K
    refine jx_le (pl' := [none, none, some (.long v2), none, none]) (jle_n (jle_n (jle_v (jle_n (jle_n jle_nil))))) ?_
    exact HE0 _ rfl
  · replace K := (if_neg hc1).symm.trans K
    refine jx_next (pc := 14) (pc' := 16) rfl rfl ?_
    refine jx_next (pc := 16) (pc' := 18) rfl rfl ?_
    refine jx_icgt (pc := 18) rfl (fun hc2 => ?_) (fun hc2 => ?_)
    · replace K := (if_pos hc2).symm.trans K
      obtain rfl := Option.some.inj K
      refine jx_le (pl' := [none, none, some (.long v2), none, none]) (jle_n (jle_n (jle_v (jle_n (jle_n jle_nil))))) ?_
      exact HE0 _ rfl
    · replace K := (if_neg hc2).symm.trans K
      refine jx_next (pc := 21) (pc' := 23) rfl rfl ?_
      refine jx_next (pc := 23) (pc' := 24) rfl rfl ?_
      refine jx_icle (pc := 24) rfl (fun hc3 => ?_) (fun hc3 => ?_)
      · replace K := (if_pos hc3).symm.trans K
        refine jx_next (pc := 27) (pc' := 28) rfl rfl ?_
        refine jx_next (pc := 28) (pc' := 29) rfl rfl ?_
        refine jx_getr2 (pc := 29) rfl jko_80 jr_9_0 ?_
        refine jx_next (pc := 32) (pc' := 34) rfl rfl ?_
        obtain ⟨hg4, K⟩ := jguard K
        refine jx_lald2 (pc := 34) rfl jko_81 jno_81 hg4 ?_
        refine jx_next (pc := 35) (pc' := 37) rfl rfl ?_
        refine jx_next (pc := 37) (pc' := 38) rfl rfl ?_
        refine jx_next (pc := 38) (pc' := 39) rfl rfl ?_
        refine jx_next (pc := 39) (pc' := 40) rfl rfl ?_
        refine jx_next (pc := 40) (pc' := 41) rfl rfl ?_
        refine jx_next (pc := 41) (pc' := 42) rfl rfl ?_
        refine jx_stln (pc := 42) (p2 := [some (.ref 80), some (.int v1), some (.long (v2 + ((h.2 81 v4.toNatClampNeg) * ((v4 - v1).toInt64)))), none, some (.int v4)]) rfl (jlt rfl) rfl ?_
        refine jx_le (pl' := [some (.ref 80), some (.int v1), some (.long (v2 + ((h.2 81 v4.toNatClampNeg) * ((v4 - v1).toInt64)))), none, some (.int v4)]) (jle_v (jle_v (jle_v (jle_n (jle_v jle_nil))))) ?_
        exact kCr_beyond_l5_j43 hP  hd K HL HE0
      · replace K := (if_neg hc3).symm.trans K
        refine jx_le (pl' := [some (.ref 80), some (.int v1), some (.long v2), none, some (.int v4)]) (jle_v (jle_v (jle_v (jle_n (jle_v jle_nil))))) ?_
        exact kCr_beyond_l5_j43 hP  hd K HL HE0
theorem kCr_beyond_l5_w {X : jX} {dd : Nat} {p d : Nat} {q : Nat → Nat} {Q : Option Value → jS → Prop} {v1 : Int32} {h : jH} (hP : jOK p d q)  (hd : 0 ≤ dd) {s : Int64 × Int32} {x : Int64} (K : jlim (fCr_beyond_l5 v1 h) s = some x) (HE : jEx X dd jc_117 49 [none, none, some (.long x), none, none] [] (176, jRf p d q, h) Q) :
    jEx X dd jc_117 5 [some (.ref 80), some (.int v1), some (.long s.1), none, some (.int s.2)] [] (176, jRf p d q, h) Q := by
  refine jlim_ok (G := fun s : Int64 × Int32 => jEx X dd jc_117 5 [some (.ref 80), some (.int v1), some (.long s.1), none, some (.int s.2)] [] (176, jRf p d q, h) Q) (GX := fun x : Int64 => jEx X dd jc_117 49 [none, none, some (.long x), none, none] [] (176, jRf p d q, h) Q) (fun s z hz HL HE => ?_) K HE
  exact kCr_beyond_l5_b hP  hd hz HL HE
/-- AndGuest$Crowd.beyond(I)J -/
noncomputable def fCr_beyond (v1 : Int32) (h : jH) : Option Int64 :=
  (Option.bind (jlim (fCr_beyond_l5  v1 h) (0, 0)) (fun (x5 : Int64) =>
  some (x5 : Int64)))
theorem kCr_beyond {X : jX} {dd : Nat} {p d : Nat} {q : Nat → Nat} {Q : Option Value → jS → Prop} {v1 : Int32} {h : jH} (hP : jOK p d q)  (hd : 0 ≤ dd) {z : Int64} (K : fCr_beyond v1 h = some z) (HQ : Q (some (.long z)) (176, jRf p d q, h)) :
    jCa X dd 117 [.ref 80, .int v1] (176, jRf p d q, h) Q := by
  unfold fCr_beyond at K
  refine jCa_of (es := jc_117) (pl := [some (.ref 80), some (.int v1), none, none, none]) (M := jm_117) rfl rfl rfl rfl ?_
  refine jx_next (pc := 0) (pc' := 1) rfl rfl ?_
  refine jx_stln (pc := 1) (p2 := [some (.ref 80), some (.int v1), some (.long 0), none, none]) rfl (jlt rfl) rfl ?_
  refine jx_next (pc := 2) (pc' := 3) rfl rfl ?_
  refine jx_sti (pc := 3) (p2 := [some (.ref 80), some (.int v1), some (.long 0), none, some (.int 0)]) rfl (jlt rfl) rfl ?_
  refine jx_le (pl' := [some (.ref 80), some (.int v1), some (.long 0), none, some (.int 0)]) (jle_v (jle_v (jle_v (jle_n (jle_v jle_nil))))) ?_
  obtain ⟨x5, hz_x5, K⟩ := Option.bind_eq_some_iff.mp K
  refine kCr_beyond_l5_w hP  hd hz_x5 ?_
  refine jx_next (pc := 49) (pc' := 50) rfl rfl ?_
  obtain rfl := Option.some.inj K
  exact jx_ret (pc := 50) rfl rfl HQ
/-- java/lang/Math.floorDiv(JJ)J -/
noncomputable def fMt_floorDivJ (v0 : Int64) (v2 : Int64) : Option Int64 :=
  (if ¬ v2 = 0 then
  (if (v0 ^^^ v2) < 0 then
  (if ((v0 / v2) * v2) = v0 then
  some (v0 / v2 : Int64)
  else
  some ((v0 / v2) - 1 : Int64))
  else
  some (v0 / v2 : Int64))
  else none)
theorem kMt_floorDivJ {X : jX} {dd : Nat} {p d : Nat} {q : Nat → Nat} {Q : Option Value → jS → Prop} {v0 : Int64} {v2 : Int64} {h : jH}  (hd : 0 ≤ dd) {z : Int64} (K : fMt_floorDivJ v0 v2 = some z) (HQ : Q (some (.long z)) (176, jRf p d q, h)) :
    jCa X dd 118 [.long v0, .long v2] (176, jRf p d q, h) Q := by
  unfold fMt_floorDivJ at K
  refine jCa_of (es := jc_118) (pl := [some (.long v0), none, some (.long v2), none, none, none]) (M := jm_118) rfl rfl rfl rfl ?_
  refine jx_next (pc := 0) (pc' := 1) rfl rfl ?_
  refine jx_next (pc := 1) (pc' := 2) rfl rfl ?_
  obtain ⟨hg, K⟩ := jguard K
  refine jx_ldiv (pc := 2) rfl hg ?_
  refine jx_stl (pc := 3) (p2 := [some (.long v0), none, some (.long v2), none, some (.long (v0 / v2)), none]) rfl (jlt rfl) rfl ?_
  refine jx_next (pc := 5) (pc' := 6) rfl rfl ?_
  refine jx_next (pc := 6) (pc' := 7) rfl rfl ?_
  refine jx_next (pc := 7) (pc' := 8) rfl rfl ?_
  refine jx_next (pc := 8) (pc' := 9) rfl rfl ?_
  refine jx_lcge (pc := 9) rfl rfl (fun hc1 => ?_) (fun hc1 => ?_)
  · replace K := (if_pos hc1).symm.trans K
    refine jx_next (pc := 13) (pc' := 15) rfl rfl ?_
    refine jx_next (pc := 15) (pc' := 16) rfl rfl ?_
    refine jx_next (pc := 16) (pc' := 17) rfl rfl ?_
    refine jx_next (pc := 17) (pc' := 18) rfl rfl ?_
    refine jx_lceq (pc := 18) rfl rfl (fun hc2 => ?_) (fun hc2 => ?_)
    · replace K := (if_pos hc2).symm.trans K
      refine jx_next (pc := 27) (pc' := 29) rfl rfl ?_
      obtain rfl := Option.some.inj K
      exact jx_ret (pc := 29) rfl rfl HQ
    · replace K := (if_neg hc2).symm.trans K
      refine jx_next (pc := 22) (pc' := 24) rfl rfl ?_
      refine jx_next (pc := 24) (pc' := 25) rfl rfl ?_
      refine jx_next (pc := 25) (pc' := 26) rfl rfl ?_
      obtain rfl := Option.some.inj K
      exact jx_ret (pc := 26) rfl rfl HQ
  · replace K := (if_neg hc1).symm.trans K
    refine jx_next (pc := 27) (pc' := 29) rfl rfl ?_
    obtain rfl := Option.some.inj K
    exact jx_ret (pc := 29) rfl rfl HQ
noncomputable def fPy_worthWith_l12_b (p : Nat) (v1 : Int32) (v2 : Int64) (v4 : Int32) (h : jH) : Option ((Int64 × Int32 × jH) ⊕ (Int64 × jH)) :=
  (if v4 < (h.1 p 0) then
  (if v4 < 8 then
  (Option.bind (fPy_comesWith p v1 v4 h) (fun (z4 : Int32) =>
  (if jin v4 8 then
  (if jin v4 8 then
  (Option.bind (fCr_add z4 (h.1 (p + 4) v4.toNatClampNeg) h) (fun (z7 : jH) =>
  some (.inl (v2 + ((z4 * (h.1 (p + 3) v4.toNatClampNeg)).toInt64), v4 + 1, z7))))
  else none)
  else none)))
  else
  some (.inr (v2, h)))
  else
  some (.inr (v2, h)))
noncomputable def fPy_worthWith_l12 (p : Nat) (v1 : Int32) : (Int64 × Int32 × jH) → Option ((Int64 × Int32 × jH) ⊕ (Int64 × jH)) :=
  fun (s : Int64 × Int32 × jH) => fPy_worthWith_l12_b p v1 s.1 s.2.1 s.2.2
theorem kPy_worthWith_l12_b {X : jX} {dd : Nat} {p d : Nat} {q : Nat → Nat} {Q : Option Value → jS → Prop} {v1 : Int32} {v2 : Int64} {v4 : Int32} {h : jH} (hP : jOK p d q)  (hd : 3 ≤ (dd + 1)) {z : (Int64 × Int32 × jH) ⊕ (Int64 × jH)} (K : fPy_worthWith_l12_b p v1 v2 v4 h = some z) (HL : ∀ s : Int64 × Int32 × jH, z = .inl s → jEx X (dd + 1) jc_115 12 [some (.ref 79), some (.int v1), some (.long s.1), none, some (.int s.2.1), none] [] (176, jRf p d q, s.2.2) Q) (HE0 : ∀ x : Int64 × jH, z = .inr x → jEx X (dd + 1) jc_115 82 [some (.ref 79), some (.int v1), some (.long x.1), none, none, none] [] (176, jRf p d q, x.2) Q) :
    jEx X (dd + 1) jc_115 12 [some (.ref 79), some (.int v1), some (.long v2), none, some (.int v4), none] [] (176, jRf p d q, h) Q := by
  unfold fPy_worthWith_l12_b at K
  refine jx_next (pc := 12) (pc' := 14) rfl rfl ?_
  refine jx_next (pc := 14) (pc' := 15) rfl rfl ?_
  refine jx_getr2 (pc := 15) rfl jko_79 jr_8_4 ?_
  refine jx_geti (pc := 18) rfl hP.1 ?_
  refine jx_icge (pc := 21) rfl (fun hc2 => ?_) (fun hc2 => ?_)
  · replace K := (if_pos hc2).symm.trans K
    refine jx_next (pc := 24) (pc' := 26) rfl rfl ?_
    refine jx_next (pc := 26) (pc' := 28) rfl rfl ?_
    refine jx_icge (pc := 28) rfl (fun hc3 => ?_) (fun hc3 => ?_)
    · replace K := (if_pos hc3).symm.trans K
      refine jx_next (pc := 31) (pc' := 32) rfl rfl ?_
      refine jx_next (pc := 32) (pc' := 33) rfl rfl ?_
      refine jx_next (pc := 33) (pc' := 35) rfl rfl ?_
      refine jx_callv (pc := 35) (o := 79) (rest := []) rfl ⟨by decide, by decide⟩ rfl jko_79 (Nat.le_of_ble_eq_true rfl) ?_
      obtain ⟨z4, hz_z4, K⟩ := Option.bind_eq_some_iff.mp K
      refine kPy_comesWith hP (by omega) hz_z4 ?_
      refine jx_sti (pc := 38) (p2 := [some (.ref 79), some (.int v1), some (.long v2), none, some (.int v4), some (.int z4)]) rfl (jlt rfl) rfl ?_
      refine jx_next (pc := 40) (pc' := 41) rfl rfl ?_
      refine jx_next (pc := 41) (pc' := 43) rfl rfl ?_
      refine jx_next (pc := 43) (pc' := 44) rfl rfl ?_
      refine jx_getr2 (pc := 44) rfl jko_79 jr_8_4 ?_
      refine jx_getr2 (pc := 47) rfl hP.1 (jrm_10_12 hP.1) ?_
      refine jx_next (pc := 50) (pc' := 52) rfl rfl ?_
      obtain ⟨hg5, K⟩ := jguard K
      refine jx_iald2 (pc := 52) rfl (jkm_10_12 hP.1) (jnm_10_12 hP.1) hg5 ?_
      refine jx_next (pc := 53) (pc' := 54) rfl rfl ?_
      refine jx_next (pc := 54) (pc' := 55) rfl rfl ?_
      refine jx_next (pc := 55) (pc' := 56) rfl rfl ?_
      refine jx_stln (pc := 56) (p2 := [some (.ref 79), some (.int v1), some (.long (v2 + ((z4 * (h.1 (p + 3) v4.toNatClampNeg)).toInt64))), none, some (.int v4), some (.int z4)]) rfl (jlt rfl) rfl ?_
      refine jx_next (pc := 57) (pc' := 58) rfl rfl ?_
      refine jx_getr2 (pc := 58) rfl jko_79 jr_8_1 ?_
      refine jx_next (pc := 61) (pc' := 63) rfl rfl ?_
      refine jx_next (pc := 63) (pc' := 64) rfl rfl ?_
      refine jx_getr2 (pc := 64) rfl jko_79 jr_8_4 ?_
      refine jx_getr2 (pc := 67) rfl hP.1 (jrm_10_13 hP.1) ?_
      refine jx_next (pc := 70) (pc' := 72) rfl rfl ?_
      obtain ⟨hg6, K⟩ := jguard K
      refine jx_iald2 (pc := 72) rfl (jkm_10_13 hP.1) (jnm_10_13 hP.1) hg6 ?_
      refine jx_callv (pc := 73) (o := 80) (rest := []) rfl ⟨by decide, by decide⟩ rfl jko_80 (Nat.le_of_ble_eq_true rfl) ?_
      obtain ⟨z7, hz_z7, K⟩ := Option.bind_eq_some_iff.mp K
      refine kCr_add hP (by omega) hz_z7 ?_
      refine jx_inc (pc := 76) (x := v4) (p2 := [some (.ref 79), some (.int v1), some (.long (v2 + ((z4 * (h.1 (p + 3) v4.toNatClampNeg)).toInt64))), none, some (.int (v4 + 1)), some (.int z4)]) rfl rfl (jlt rfl) rfl ?_
      refine jx_next (pc := 79) (pc' := 12) rfl rfl ?_
      obtain rfl := Option.some.inj K
      refine jx_le (pl' := [some (.ref 79), some (.int v1), some (.long (v2 + ((z4 * (h.1 (p + 3) v4.toNatClampNeg)).toInt64))), none, some (.int (v4 + 1)), none]) (jle_v (jle_v (jle_v (jle_n (jle_v (jle_n jle_nil)))))) ?_
      exact HL (v2 + ((z4 * (h.1 (p + 3) v4.toNatClampNeg)).toInt64), v4 + 1, z7) rfl
    · replace K := (if_neg hc3).symm.trans K
      obtain rfl := Option.some.inj K
      refine jx_le (pl' := [some (.ref 79), some (.int v1), some (.long v2), none, none, none]) (jle_v (jle_v (jle_v (jle_n (jle_n (jle_n jle_nil)))))) ?_
      exact HE0 _ rfl
  · replace K := (if_neg hc2).symm.trans K
    obtain rfl := Option.some.inj K
    refine jx_le (pl' := [some (.ref 79), some (.int v1), some (.long v2), none, none, none]) (jle_v (jle_v (jle_v (jle_n (jle_n (jle_n jle_nil)))))) ?_
    exact HE0 _ rfl
theorem kPy_worthWith_l12_w {X : jX} {dd : Nat} {p d : Nat} {q : Nat → Nat} {Q : Option Value → jS → Prop} {v1 : Int32} (hP : jOK p d q)  (hd : 3 ≤ (dd + 1)) {s : Int64 × Int32 × jH} {x : Int64 × jH} (K : jlim (fPy_worthWith_l12 p v1) s = some x) (HE : jEx X (dd + 1) jc_115 82 [some (.ref 79), some (.int v1), some (.long x.1), none, none, none] [] (176, jRf p d q, x.2) Q) :
    jEx X (dd + 1) jc_115 12 [some (.ref 79), some (.int v1), some (.long s.1), none, some (.int s.2.1), none] [] (176, jRf p d q, s.2.2) Q := by
  refine jlim_ok (G := fun s : Int64 × Int32 × jH => jEx X (dd + 1) jc_115 12 [some (.ref 79), some (.int v1), some (.long s.1), none, some (.int s.2.1), none] [] (176, jRf p d q, s.2.2) Q) (GX := fun x : Int64 × jH => jEx X (dd + 1) jc_115 82 [some (.ref 79), some (.int v1), some (.long x.1), none, none, none] [] (176, jRf p d q, x.2) Q) (fun s z hz HL HE => ?_) K HE
  exact kPy_worthWith_l12_b hP  hd hz HL HE
/-- AndGuest$Party.worthWith(I)J -/
noncomputable def fPy_worthWith (p : Nat) (v1 : Int32) (h : jH) : Option (Int64 × jH) :=
  (Option.bind (fCr_clear h) (fun (z1 : jH) =>
  (Option.bind (jlim (fPy_worthWith_l12  p v1) (0, 0, z1)) (fun (x8 : Int64 × jH) =>
  (Option.bind (fPy_offenceWith p v1 x8.2) (fun (z9 : Int32) =>
  (Option.bind (fCr_beyond (x8.2.1 p 3) x8.2) (fun (z10 : Int64) =>
  (Option.bind (fMt_floorDivJ (((x8.1 * 10000000) - (z9.toInt64 * 100000000)) - (((x8.2.1 p 4).toInt64) * z10)) 1000000) (fun (z11 : Int64) =>
  some (z11, x8.2)))))))))))
theorem kPy_worthWith {X : jX} {dd : Nat} {p d : Nat} {q : Nat → Nat} {Q : Option Value → jS → Prop} {v1 : Int32} {h : jH} (hP : jOK p d q)  (hd : 3 ≤ dd) {z : Int64 × jH} (K : fPy_worthWith p v1 h = some z) (HQ : Q (some (.long z.1)) (176, jRf p d q, z.2)) :
    jCa X dd 115 [.ref 79, .int v1] (176, jRf p d q, h) Q := by
  obtain ⟨dd, rfl⟩ : ∃ d9, dd = d9 + 1 := ⟨dd - 1, by omega⟩
  unfold fPy_worthWith at K
  refine jCa_of (es := jc_115) (pl := [some (.ref 79), some (.int v1), none, none, none, none]) (M := jm_115) rfl rfl rfl rfl ?_
  refine jx_next (pc := 0) (pc' := 1) rfl rfl ?_
  refine jx_stln (pc := 1) (p2 := [some (.ref 79), some (.int v1), some (.long 0), none, none, none]) rfl (jlt rfl) rfl ?_
  refine jx_next (pc := 2) (pc' := 3) rfl rfl ?_
  refine jx_getr2 (pc := 3) rfl jko_79 jr_8_1 ?_
  refine jx_callv (pc := 6) (o := 80) (rest := []) rfl ⟨by decide, by decide⟩ rfl jko_80 (Nat.le_of_ble_eq_true rfl) ?_
  obtain ⟨z1, hz_z1, K⟩ := Option.bind_eq_some_iff.mp K
  refine kCr_clear hP (by omega) hz_z1 ?_
  refine jx_next (pc := 9) (pc' := 10) rfl rfl ?_
  refine jx_sti (pc := 10) (p2 := [some (.ref 79), some (.int v1), some (.long 0), none, some (.int 0), none]) rfl (jlt rfl) rfl ?_
  refine jx_le (pl' := [some (.ref 79), some (.int v1), some (.long 0), none, some (.int 0), none]) (jle_v (jle_v (jle_v (jle_n (jle_v (jle_n jle_nil)))))) ?_
  obtain ⟨x8, hz_x8, K⟩ := Option.bind_eq_some_iff.mp K
  refine kPy_worthWith_l12_w hP  hd hz_x8 ?_
  refine jx_next (pc := 82) (pc' := 83) rfl rfl ?_
  refine jx_next (pc := 83) (pc' := 86) rfl rfl ?_
  refine jx_next (pc := 86) (pc' := 87) rfl rfl ?_
  refine jx_next (pc := 87) (pc' := 88) rfl rfl ?_
  refine jx_next (pc := 88) (pc' := 89) rfl rfl ?_
  refine jx_callv (pc := 89) (o := 79) (rest := [.long (x8.1 * 10000000)]) rfl ⟨by decide, by decide⟩ rfl jko_79 (Nat.le_of_ble_eq_true rfl) ?_
  obtain ⟨z9, hz_z9, K⟩ := Option.bind_eq_some_iff.mp K
  refine kPy_offenceWith hP (by omega) hz_z9 ?_
  refine jx_next (pc := 92) (pc' := 93) rfl rfl ?_
  refine jx_next (pc := 93) (pc' := 96) rfl rfl ?_
  refine jx_next (pc := 96) (pc' := 97) rfl rfl ?_
  refine jx_next (pc := 97) (pc' := 98) rfl rfl ?_
  refine jx_next (pc := 98) (pc' := 99) rfl rfl ?_
  refine jx_getr2 (pc := 99) rfl jko_79 jr_8_4 ?_
  refine jx_geti (pc := 102) rfl hP.1 ?_
  refine jx_next (pc := 105) (pc' := 106) rfl rfl ?_
  refine jx_next (pc := 106) (pc' := 107) rfl rfl ?_
  refine jx_getr2 (pc := 107) rfl jko_79 jr_8_1 ?_
  refine jx_next (pc := 110) (pc' := 111) rfl rfl ?_
  refine jx_getr2 (pc := 111) rfl jko_79 jr_8_4 ?_
  refine jx_geti (pc := 114) rfl hP.1 ?_
  refine jx_callv (pc := 117) (o := 80) (rest := [.long ((x8.2.1 p 4).toInt64), .long ((x8.1 * 10000000) - (z9.toInt64 * 100000000))]) rfl ⟨by decide, by decide⟩ rfl jko_80 (Nat.le_of_ble_eq_true rfl) ?_
  obtain ⟨z10, hz_z10, K⟩ := Option.bind_eq_some_iff.mp K
  refine kCr_beyond hP (by omega) hz_z10 ?_
  refine jx_next (pc := 120) (pc' := 121) rfl rfl ?_
  refine jx_next (pc := 121) (pc' := 122) rfl rfl ?_
  refine jx_stl (pc := 122) (p2 := [some (.ref 79), some (.int v1), some (.long x8.1), none, some (.long (((x8.1 * 10000000) - (z9.toInt64 * 100000000)) - (((x8.2.1 p 4).toInt64) * z10))), none]) rfl (jlt rfl) rfl ?_
  refine jx_next (pc := 124) (pc' := 126) rfl rfl ?_
  refine jx_next (pc := 126) (pc' := 129) rfl rfl ?_
  refine jx_calls (pc := 129) rfl (Nat.le_of_ble_eq_true rfl) (Nat.le_of_ble_eq_true rfl) ?_
  obtain ⟨z11, hz_z11, K⟩ := Option.bind_eq_some_iff.mp K
  refine kMt_floorDivJ  (by omega) hz_z11 ?_
  obtain rfl := Option.some.inj K
  exact jx_ret (pc := 132) rfl rfl HQ
/-- AndGuest.worth()J -/
noncomputable def fA_worth (p : Nat)  (h : jH) : Option (Int64 × jH) :=
  (if (h.1 1 12) = 0 then
  some ((-1000000000000000), h)
  else
  (Option.bind (fPy_weighCards p h) (fun (z2 : jH) =>
  (Option.bind (fPy_worthWith p 0 z2) (fun (z3 : Int64 × jH) =>
  some (z3.1, z3.2))))))
theorem kA_worth {X : jX} {dd : Nat} {p d : Nat} {q : Nat → Nat} {Q : Option Value → jS → Prop}  {h : jH} (hP : jOK p d q)  (hd : 6 ≤ dd) {z : Int64 × jH} (K : fA_worth p  h = some z) (HQ : Q (some (.long z.1)) (176, jRf p d q, z.2)) :
    jCa X dd 114 [.ref 1] (176, jRf p d q, h) Q := by
  obtain ⟨dd, rfl⟩ : ∃ d9, dd = d9 + 1 := ⟨dd - 1, by omega⟩
  unfold fA_worth at K
  refine jCa_of (es := jc_114) (pl := [some (.ref 1)]) (M := jm_114) rfl rfl rfl rfl ?_
  refine jx_next (pc := 0) (pc' := 1) rfl rfl ?_
  refine jx_getz (pc := 1) rfl jko_1 ?_
  refine jx_ifne (pc := 4) rfl (fun hc1 => ?_) (fun hc1 => ?_)
  · replace K := (if_pos hc1).symm.trans K
    refine jx_next (pc := 7) (pc' := 10) rfl rfl ?_
    obtain rfl := Option.some.inj K
    exact jx_ret (pc := 10) rfl rfl HQ
  · replace K := (if_neg hc1).symm.trans K
    refine jx_next (pc := 11) (pc' := 12) rfl rfl ?_
    refine jx_getr2 (pc := 12) rfl jko_1 jr_1_8 ?_
    refine jx_callv (pc := 15) (o := 79) (rest := []) rfl ⟨by decide, by decide⟩ rfl jko_79 (Nat.le_of_ble_eq_true rfl) ?_
    obtain ⟨z2, hz_z2, K⟩ := Option.bind_eq_some_iff.mp K
    refine kPy_weighCards hP (by omega) hz_z2 ?_
    refine jx_next (pc := 18) (pc' := 19) rfl rfl ?_
    refine jx_getr2 (pc := 19) rfl jko_1 jr_1_8 ?_
    refine jx_next (pc := 22) (pc' := 23) rfl rfl ?_
    refine jx_callv (pc := 23) (o := 79) (rest := []) rfl ⟨by decide, by decide⟩ rfl jko_79 (Nat.le_of_ble_eq_true rfl) ?_
    obtain ⟨z3, hz_z3, K⟩ := Option.bind_eq_some_iff.mp K
    refine kPy_worthWith hP (by omega) hz_z3 ?_
    obtain rfl := Option.some.inj K
    exact jx_ret (pc := 26) rfl rfl HQ
/-- AndGuest$Plan.allSets()I -/
noncomputable def fPn_allSets (o : Nat) (h : jH) : Int32 :=
  (1 <<< ((h.1 o 0) &&& 31) : Int32)
theorem kPn_allSets {X : jX} {dd : Nat} {p d : Nat} {q : Nat → Nat} {Q : Option Value → jS → Prop} {o : Nat} {h : jH} (hP : jOK p d q) (ho : jcl 176 o = 10) (hd : 0 ≤ dd) {z : Int32} (K : fPn_allSets o h = z) (HQ : Q (some (.int z)) (176, jRf p d q, h)) :
    jCa X dd 121 [.ref o] (176, jRf p d q, h) Q := by
  unfold fPn_allSets at K
  refine jCa_of (es := jc_121) (pl := [some (.ref o)]) (M := jm_121) rfl rfl rfl rfl ?_
  refine jx_next (pc := 0) (pc' := 1) rfl rfl ?_
  refine jx_next (pc := 1) (pc' := 2) rfl rfl ?_
  refine jx_geti (pc := 2) rfl ho ?_
  refine jx_next (pc := 5) (pc' := 6) rfl rfl ?_
  obtain rfl := K
  exact jx_iret (pc := 6) rfl HQ
/-- AndGuest$Party.isWhole(II)Z -/
noncomputable def fPy_isWhole (p : Nat) (v1 : Int32) (v2 : Int32) (h : jH) : Option Int32 :=
  (Option.bind (fPn_pulledBy p v1 h) (fun (z1 : Int32) =>
  (if (z1 &&& ((v1 ||| v2) ^^^ (-1))) = 0 then
  some (1 : Int32)
  else
  some (0 : Int32))))
theorem kPy_isWhole {X : jX} {dd : Nat} {p d : Nat} {q : Nat → Nat} {Q : Option Value → jS → Prop} {v1 : Int32} {v2 : Int32} {h : jH} (hP : jOK p d q)  (hd : 1 ≤ dd) {z : Int32} (K : fPy_isWhole p v1 v2 h = some z) (HQ : Q (some (.int z)) (176, jRf p d q, h)) :
    jCa X dd 122 [.ref 79, .int v1, .int v2] (176, jRf p d q, h) Q := by
  obtain ⟨dd, rfl⟩ : ∃ d9, dd = d9 + 1 := ⟨dd - 1, by omega⟩
  unfold fPy_isWhole at K
  refine jCa_of (es := jc_122) (pl := [some (.ref 79), some (.int v1), some (.int v2)]) (M := jm_122) rfl rfl rfl rfl ?_
  refine jx_next (pc := 0) (pc' := 1) rfl rfl ?_
  refine jx_getr2 (pc := 1) rfl jko_79 jr_8_4 ?_
  refine jx_next (pc := 4) (pc' := 5) rfl rfl ?_
  refine jx_callv (pc := 5) (o := p) (rest := []) rfl ⟨by decide, by decide⟩ rfl hP.1 (Nat.le_of_ble_eq_true rfl) ?_
  obtain ⟨z1, hz_z1, K⟩ := Option.bind_eq_some_iff.mp K
  refine kPn_pulledBy hP hP.1 (by omega) hz_z1 ?_
  refine jx_next (pc := 8) (pc' := 9) rfl rfl ?_
  refine jx_next (pc := 9) (pc' := 10) rfl rfl ?_
  refine jx_next (pc := 10) (pc' := 11) rfl rfl ?_
  refine jx_next (pc := 11) (pc' := 12) rfl rfl ?_
  refine jx_next (pc := 12) (pc' := 13) rfl rfl ?_
  refine jx_next (pc := 13) (pc' := 14) rfl rfl ?_
  refine jx_ifne (pc := 14) rfl (fun hc2 => ?_) (fun hc2 => ?_)
  · replace K := (if_pos hc2).symm.trans K
    refine jx_next (pc := 17) (pc' := 18) rfl rfl ?_
    refine jx_next (pc := 18) (pc' := 22) rfl rfl ?_
    obtain rfl := Option.some.inj K
    exact jx_zret (pc := 22) rfl (Or.inr rfl) HQ
  · replace K := (if_neg hc2).symm.trans K
    refine jx_next (pc := 21) (pc' := 22) rfl rfl ?_
    obtain rfl := Option.some.inj K
    exact jx_zret (pc := 22) rfl (Or.inl rfl) HQ
/-- AndGuest$Party.canAsk(I)Z -/
noncomputable def fPy_canAsk (p : Nat) (v1 : Int32) (h : jH) : Option Int32 :=
  (Option.bind (fSd_askedSet 11 h) (fun (z1 : Int32) =>
  (if v1 < 0 then
  some (0 : Int32)
  else
  (if v1 < (fPn_allSets p h) then
  (if (v1 &&& z1) = 0 then
  (Option.bind (fPy_isWhole p v1 z1 h) (fun (z6 : Int32) =>
  (if z6 = 0 then
  some (0 : Int32)
  else
  some (1 : Int32))))
  else
  some (0 : Int32))
  else
  some (0 : Int32)))))
theorem kPy_canAsk {X : jX} {dd : Nat} {p d : Nat} {q : Nat → Nat} {Q : Option Value → jS → Prop} {v1 : Int32} {h : jH} (hP : jOK p d q)  (hd : 2 ≤ dd) {z : Int32} (K : fPy_canAsk p v1 h = some z) (HQ : Q (some (.int z)) (176, jRf p d q, h)) :
    jCa X dd 120 [.ref 79, .int v1] (176, jRf p d q, h) Q := by
  obtain ⟨dd, rfl⟩ : ∃ d9, dd = d9 + 1 := ⟨dd - 1, by omega⟩
  unfold fPy_canAsk at K
  refine jCa_of (es := jc_120) (pl := [some (.ref 79), some (.int v1), none]) (M := jm_120) rfl rfl rfl rfl ?_
  refine jx_next (pc := 0) (pc' := 1) rfl rfl ?_
  refine jx_getr2 (pc := 1) rfl jko_79 jr_8_0 ?_
  refine jx_callv (pc := 4) (o := 11) (rest := []) rfl ⟨by decide, by decide⟩ rfl jko_11 (Nat.le_of_ble_eq_true rfl) ?_
  obtain ⟨z1, hz_z1, K⟩ := Option.bind_eq_some_iff.mp K
  refine kSd_askedSet hP jko_11 (by omega) hz_z1 ?_
  refine jx_stin (pc := 7) (p2 := [some (.ref 79), some (.int v1), some (.int z1)]) rfl (jlt rfl) rfl ?_
  refine jx_next (pc := 8) (pc' := 9) rfl rfl ?_
  refine jx_iflt (pc := 9) rfl (fun hc2 => ?_) (fun hc2 => ?_)
  · replace K := (if_pos hc2).symm.trans K
    refine jx_next (pc := 42) (pc' := 43) rfl rfl ?_
    obtain rfl := Option.some.inj K
    exact jx_zret (pc := 43) rfl (Or.inl rfl) HQ
  · replace K := (if_neg hc2).symm.trans K
    refine jx_next (pc := 12) (pc' := 13) rfl rfl ?_
    refine jx_next (pc := 13) (pc' := 14) rfl rfl ?_
    refine jx_getr2 (pc := 14) rfl jko_79 jr_8_4 ?_
    refine jx_callv (pc := 17) (o := p) (rest := [.int v1]) rfl ⟨by decide, by decide⟩ rfl hP.1 (Nat.le_of_ble_eq_true rfl) ?_
    refine kPn_allSets hP hP.1 (by omega) rfl ?_
    refine jx_icge (pc := 20) rfl (fun hc4 => ?_) (fun hc4 => ?_)
    · replace K := (if_pos hc4).symm.trans K
      refine jx_next (pc := 23) (pc' := 24) rfl rfl ?_
      refine jx_next (pc := 24) (pc' := 25) rfl rfl ?_
      refine jx_next (pc := 25) (pc' := 26) rfl rfl ?_
      refine jx_ifne (pc := 26) rfl (fun hc5 => ?_) (fun hc5 => ?_)
      · replace K := (if_pos hc5).symm.trans K
        refine jx_next (pc := 29) (pc' := 30) rfl rfl ?_
        refine jx_next (pc := 30) (pc' := 31) rfl rfl ?_
        refine jx_next (pc := 31) (pc' := 32) rfl rfl ?_
        refine jx_callv (pc := 32) (o := 79) (rest := []) rfl ⟨by decide, by decide⟩ rfl jko_79 (Nat.le_of_ble_eq_true rfl) ?_
        obtain ⟨z6, hz_z6, K⟩ := Option.bind_eq_some_iff.mp K
        refine kPy_isWhole hP (by omega) hz_z6 ?_
        refine jx_ifeq (pc := 35) rfl (fun hc7 => ?_) (fun hc7 => ?_)
        · replace K := (if_pos hc7).symm.trans K
          refine jx_next (pc := 42) (pc' := 43) rfl rfl ?_
          obtain rfl := Option.some.inj K
          exact jx_zret (pc := 43) rfl (Or.inl rfl) HQ
        · replace K := (if_neg hc7).symm.trans K
          refine jx_next (pc := 38) (pc' := 39) rfl rfl ?_
          refine jx_next (pc := 39) (pc' := 43) rfl rfl ?_
          obtain rfl := Option.some.inj K
          exact jx_zret (pc := 43) rfl (Or.inr rfl) HQ
      · replace K := (if_neg hc5).symm.trans K
        refine jx_next (pc := 42) (pc' := 43) rfl rfl ?_
        obtain rfl := Option.some.inj K
        exact jx_zret (pc := 43) rfl (Or.inl rfl) HQ
    · replace K := (if_neg hc4).symm.trans K
      refine jx_next (pc := 42) (pc' := 43) rfl rfl ?_
      obtain rfl := Option.some.inj K
      exact jx_zret (pc := 43) rfl (Or.inl rfl) HQ
/-- AndGuest.would(I)J -/
noncomputable def fA_would (p : Nat) (v1 : Int32) (h : jH) : Option (Int64 × jH) :=
  (if (h.1 1 12) = 0 then
  some ((-1000000000000000), h)
  else
  (Option.bind (fPy_canAsk p v1 h) (fun (z2 : Int32) =>
  (if z2 = 0 then
  some ((-1000000000000000), h)
  else
  (Option.bind (fPy_weighCards p h) (fun (z4 : jH) =>
  (Option.bind (fPy_worthWith p v1 z4) (fun (z5 : Int64 × jH) =>
  some (z5.1, z5.2)))))))))
theorem kA_would {X : jX} {dd : Nat} {p d : Nat} {q : Nat → Nat} {Q : Option Value → jS → Prop} {v1 : Int32} {h : jH} (hP : jOK p d q)  (hd : 6 ≤ dd) {z : Int64 × jH} (K : fA_would p v1 h = some z) (HQ : Q (some (.long z.1)) (176, jRf p d q, z.2)) :
    jCa X dd 119 [.ref 1, .int v1] (176, jRf p d q, h) Q := by
  obtain ⟨dd, rfl⟩ : ∃ d9, dd = d9 + 1 := ⟨dd - 1, by omega⟩
  unfold fA_would at K
  refine jCa_of (es := jc_119) (pl := [some (.ref 1), some (.int v1)]) (M := jm_119) rfl rfl rfl rfl ?_
  refine jx_next (pc := 0) (pc' := 1) rfl rfl ?_
  refine jx_getz (pc := 1) rfl jko_1 ?_
  refine jx_ifeq (pc := 4) rfl (fun hc1 => ?_) (fun hc1 => ?_)
  · replace K := (if_pos hc1).symm.trans K
    refine jx_next (pc := 18) (pc' := 21) rfl rfl ?_
    obtain rfl := Option.some.inj K
    exact jx_ret (pc := 21) rfl rfl HQ
  · replace K := (if_neg hc1).symm.trans K
    refine jx_next (pc := 7) (pc' := 8) rfl rfl ?_
    refine jx_getr2 (pc := 8) rfl jko_1 jr_1_8 ?_
    refine jx_next (pc := 11) (pc' := 12) rfl rfl ?_
    refine jx_callv (pc := 12) (o := 79) (rest := []) rfl ⟨by decide, by decide⟩ rfl jko_79 (Nat.le_of_ble_eq_true rfl) ?_
    obtain ⟨z2, hz_z2, K⟩ := Option.bind_eq_some_iff.mp K
    refine kPy_canAsk hP (by omega) hz_z2 ?_
    refine jx_ifne (pc := 15) rfl (fun hc3 => ?_) (fun hc3 => ?_)
    · replace K := (if_pos hc3).symm.trans K
      refine jx_next (pc := 18) (pc' := 21) rfl rfl ?_
      obtain rfl := Option.some.inj K
      exact jx_ret (pc := 21) rfl rfl HQ
    · replace K := (if_neg hc3).symm.trans K
      refine jx_next (pc := 22) (pc' := 23) rfl rfl ?_
      refine jx_getr2 (pc := 23) rfl jko_1 jr_1_8 ?_
      refine jx_callv (pc := 26) (o := 79) (rest := []) rfl ⟨by decide, by decide⟩ rfl jko_79 (Nat.le_of_ble_eq_true rfl) ?_
      obtain ⟨z4, hz_z4, K⟩ := Option.bind_eq_some_iff.mp K
      refine kPy_weighCards hP (by omega) hz_z4 ?_
      refine jx_next (pc := 29) (pc' := 30) rfl rfl ?_
      refine jx_getr2 (pc := 30) rfl jko_1 jr_1_8 ?_
      refine jx_next (pc := 33) (pc' := 34) rfl rfl ?_
      refine jx_callv (pc := 34) (o := 79) (rest := []) rfl ⟨by decide, by decide⟩ rfl jko_79 (Nat.le_of_ble_eq_true rfl) ?_
      obtain ⟨z5, hz_z5, K⟩ := Option.bind_eq_some_iff.mp K
      refine kPy_worthWith hP (by omega) hz_z5 ?_
      obtain rfl := Option.some.inj K
      exact jx_ret (pc := 37) rfl rfl HQ
/-- AndGuest.offence()I -/
noncomputable def fA_offence (p : Nat)  (h : jH) : Option (Int32 × jH) :=
  (if (h.1 1 12) = 0 then
  some ((-1), h)
  else
  (Option.bind (fPy_weighCards p h) (fun (z2 : jH) =>
  (Option.bind (fPy_offenceWith p 0 z2) (fun (z3 : Int32) =>
  some (z3, z2))))))
theorem kA_offence {X : jX} {dd : Nat} {p d : Nat} {q : Nat → Nat} {Q : Option Value → jS → Prop}  {h : jH} (hP : jOK p d q)  (hd : 6 ≤ dd) {z : Int32 × jH} (K : fA_offence p  h = some z) (HQ : Q (some (.int z.1)) (176, jRf p d q, z.2)) :
    jCa X dd 123 [.ref 1] (176, jRf p d q, h) Q := by
  obtain ⟨dd, rfl⟩ : ∃ d9, dd = d9 + 1 := ⟨dd - 1, by omega⟩
  unfold fA_offence at K
  refine jCa_of (es := jc_123) (pl := [some (.ref 1)]) (M := jm_123) rfl rfl rfl rfl ?_
  refine jx_next (pc := 0) (pc' := 1) rfl rfl ?_
  refine jx_getz (pc := 1) rfl jko_1 ?_
  refine jx_ifne (pc := 4) rfl (fun hc1 => ?_) (fun hc1 => ?_)
  · replace K := (if_pos hc1).symm.trans K
    refine jx_next (pc := 7) (pc' := 8) rfl rfl ?_
    obtain rfl := Option.some.inj K
    exact jx_iret (pc := 8) rfl HQ
  · replace K := (if_neg hc1).symm.trans K
    refine jx_next (pc := 9) (pc' := 10) rfl rfl ?_
    refine jx_getr2 (pc := 10) rfl jko_1 jr_1_8 ?_
    refine jx_callv (pc := 13) (o := 79) (rest := []) rfl ⟨by decide, by decide⟩ rfl jko_79 (Nat.le_of_ble_eq_true rfl) ?_
    obtain ⟨z2, hz_z2, K⟩ := Option.bind_eq_some_iff.mp K
    refine kPy_weighCards hP (by omega) hz_z2 ?_
    refine jx_next (pc := 16) (pc' := 17) rfl rfl ?_
    refine jx_getr2 (pc := 17) rfl jko_1 jr_1_8 ?_
    refine jx_next (pc := 20) (pc' := 21) rfl rfl ?_
    refine jx_callv (pc := 21) (o := 79) (rest := []) rfl ⟨by decide, by decide⟩ rfl jko_79 (Nat.le_of_ble_eq_true rfl) ?_
    obtain ⟨z3, hz_z3, K⟩ := Option.bind_eq_some_iff.mp K
    refine kPy_offenceWith hP (by omega) hz_z3 ?_
    obtain rfl := Option.some.inj K
    exact jx_iret (pc := 24) rfl HQ
noncomputable def fCh_findBest_l23_j115 (p : Nat) (v1 : Int32) (v2 : Int32) (v3 : Int32) (h : jH) : Option ((Int32 × Int32 × jH) ⊕ (Int32 × jH)) :=
  some (.inl (v2, v3 + 1, h))
theorem kCh_findBest_l23_j115 {X : jX} {dd : Nat} {p d : Nat} {q : Nat → Nat} {Q : Option Value → jS → Prop} {v1 : Int32} {v2 : Int32} {v3 : Int32} {h : jH} (hP : jOK p d q)  (hd : 6 ≤ (dd + 1)) {z : (Int32 × Int32 × jH) ⊕ (Int32 × jH)} (K : fCh_findBest_l23_j115 p v1 v2 v3 h = some z) (HL : ∀ s : Int32 × Int32 × jH, z = .inl s → jEx X (dd + 1) jc_125 23 [some (.ref 96), some (.int v1), some (.int s.1), some (.int s.2.1), none, none, none] [] (176, jRf p d q, s.2.2) Q) (HE0 : ∀ x : Int32 × jH, z = .inr x → jEx X (dd + 1) jc_125 121 [none, none, some (.int x.1), none, none, none, none] [] (176, jRf p d q, x.2) Q) :
    jEx X (dd + 1) jc_125 115 [some (.ref 96), some (.int v1), some (.int v2), some (.int v3), none, none, none] [] (176, jRf p d q, h) Q := by
  unfold fCh_findBest_l23_j115 at K
  refine jx_inc (pc := 115) (x := v3) (p2 := [some (.ref 96), some (.int v1), some (.int v2), some (.int (v3 + 1)), none, none, none]) rfl rfl (jlt rfl) rfl ?_
  refine jx_next (pc := 118) (pc' := 23) rfl rfl ?_
  obtain rfl := Option.some.inj K
  refine jx_le (pl' := [some (.ref 96), some (.int v1), some (.int v2), some (.int (v3 + 1)), none, none, none]) (jle_v (jle_v (jle_v (jle_v (jle_n (jle_n (jle_n jle_nil))))))) ?_
  exact HL (v2, v3 + 1, h) rfl
noncomputable def fCh_findBest_l23_j107 (p : Nat) (v1 : Int32) (v3 : Int32) (v4 : Int64) (h : jH) : Option ((Int32 × Int32 × jH) ⊕ (Int32 × jH)) :=
  fCh_findBest_l23_j115  p v1 v3 v3 (jhL h 96 1 v4)
theorem kCh_findBest_l23_j107 {X : jX} {dd : Nat} {p d : Nat} {q : Nat → Nat} {Q : Option Value → jS → Prop} {v1 : Int32} {v3 : Int32} {v4 : Int64} {h : jH} (hP : jOK p d q)  (hd : 6 ≤ (dd + 1)) {z : (Int32 × Int32 × jH) ⊕ (Int32 × jH)} (K : fCh_findBest_l23_j107 p v1 v3 v4 h = some z) (HL : ∀ s : Int32 × Int32 × jH, z = .inl s → jEx X (dd + 1) jc_125 23 [some (.ref 96), some (.int v1), some (.int s.1), some (.int s.2.1), none, none, none] [] (176, jRf p d q, s.2.2) Q) (HE0 : ∀ x : Int32 × jH, z = .inr x → jEx X (dd + 1) jc_125 121 [none, none, some (.int x.1), none, none, none, none] [] (176, jRf p d q, x.2) Q) :
    jEx X (dd + 1) jc_125 107 [some (.ref 96), some (.int v1), none, some (.int v3), some (.long v4), none, none] [] (176, jRf p d q, h) Q := by
  unfold fCh_findBest_l23_j107 at K
  refine jx_next (pc := 107) (pc' := 108) rfl rfl ?_
  refine jx_stin (pc := 108) (p2 := [some (.ref 96), some (.int v1), some (.int v3), some (.int v3), some (.long v4), none, none]) rfl (jlt rfl) rfl ?_
  refine jx_next (pc := 109) (pc' := 110) rfl rfl ?_
  refine jx_next (pc := 110) (pc' := 112) rfl rfl ?_
  refine jx_putl (pc := 112) rfl jko_96 ?_
  refine jx_le (pl' := [some (.ref 96), some (.int v1), some (.int v3), some (.int v3), none, none, none]) (jle_v (jle_v (jle_v (jle_v (jle_n (jle_n (jle_n jle_nil))))))) ?_
  exact kCh_findBest_l23_j115 hP  hd K HL HE0
noncomputable def fCh_findBest_l23_j80 (p : Nat) (v1 : Int32) (v2 : Int32) (v3 : Int32) (v4 : Int64) (s0 : Int32) (h : jH) : Option ((Int32 × Int32 × jH) ⊕ (Int32 × jH)) :=
  (if (h.2 96 1) < v4 then
  fCh_findBest_l23_j107  p v1 v3 v4 h
  else
  (if v4 = (h.2 96 1) then
  (if s0 = 0 then
  fCh_findBest_l23_j115  p v1 v2 v3 h
  else
  fCh_findBest_l23_j107  p v1 v3 v4 h)
  else
  fCh_findBest_l23_j115  p v1 v2 v3 h))
theorem kCh_findBest_l23_j80 {X : jX} {dd : Nat} {p d : Nat} {q : Nat → Nat} {Q : Option Value → jS → Prop} {v1 : Int32} {v2 : Int32} {v3 : Int32} {v4 : Int64} {s0 : Int32} {h : jH} (hP : jOK p d q)  (hd : 6 ≤ (dd + 1)) {z : (Int32 × Int32 × jH) ⊕ (Int32 × jH)} (K : fCh_findBest_l23_j80 p v1 v2 v3 v4 s0 h = some z) (HL : ∀ s : Int32 × Int32 × jH, z = .inl s → jEx X (dd + 1) jc_125 23 [some (.ref 96), some (.int v1), some (.int s.1), some (.int s.2.1), none, none, none] [] (176, jRf p d q, s.2.2) Q) (HE0 : ∀ x : Int32 × jH, z = .inr x → jEx X (dd + 1) jc_125 121 [none, none, some (.int x.1), none, none, none, none] [] (176, jRf p d q, x.2) Q) :
    jEx X (dd + 1) jc_125 80 [some (.ref 96), some (.int v1), some (.int v2), some (.int v3), some (.long v4), none, none] [.int s0] (176, jRf p d q, h) Q := by
  unfold fCh_findBest_l23_j80 at K
  refine jx_sti (pc := 80) (p2 := [some (.ref 96), some (.int v1), some (.int v2), some (.int v3), some (.long v4), none, some (.int s0)]) rfl (jlt rfl) rfl ?_
  refine jx_next (pc := 82) (pc' := 84) rfl rfl ?_
  refine jx_next (pc := 84) (pc' := 85) rfl rfl ?_
  refine jx_getl (pc := 85) rfl jko_96 ?_
  refine jx_lcgt (pc := 88) rfl rfl (fun hc13 => ?_) (fun hc13 => ?_)
  · replace K := (if_pos hc13).symm.trans K
    refine jx_le (pl' := [some (.ref 96), some (.int v1), none, some (.int v3), some (.long v4), none, none]) (jle_v (jle_v (jle_n (jle_v (jle_v (jle_n (jle_n jle_nil))))))) ?_
    exact kCh_findBest_l23_j107 hP  hd K HL HE0
  · replace K := (if_neg hc13).symm.trans K
    refine jx_next (pc := 92) (pc' := 94) rfl rfl ?_
    refine jx_next (pc := 94) (pc' := 95) rfl rfl ?_
    refine jx_getl (pc := 95) rfl jko_96 ?_
    refine jx_lcne (pc := 98) rfl rfl (fun hc14 => ?_) (fun hc14 => ?_)
    · replace K := (if_pos hc14).symm.trans K
      refine jx_next (pc := 102) (pc' := 104) rfl rfl ?_
      refine jx_ifeq (pc := 104) rfl (fun hc15 => ?_) (fun hc15 => ?_)
      · replace K := (if_pos hc15).symm.trans K
        refine jx_le (pl' := [some (.ref 96), some (.int v1), some (.int v2), some (.int v3), none, none, none]) (jle_v (jle_v (jle_v (jle_v (jle_n (jle_n (jle_n jle_nil))))))) ?_
        exact kCh_findBest_l23_j115 hP  hd K HL HE0
      · replace K := (if_neg hc15).symm.trans K
        refine jx_le (pl' := [some (.ref 96), some (.int v1), none, some (.int v3), some (.long v4), none, none]) (jle_v (jle_v (jle_n (jle_v (jle_v (jle_n (jle_n jle_nil))))))) ?_
        exact kCh_findBest_l23_j107 hP  hd K HL HE0
    · replace K := (if_neg hc14).symm.trans K
      refine jx_le (pl' := [some (.ref 96), some (.int v1), some (.int v2), some (.int v3), none, none, none]) (jle_v (jle_v (jle_v (jle_v (jle_n (jle_n (jle_n jle_nil))))))) ?_
      exact kCh_findBest_l23_j115 hP  hd K HL HE0
noncomputable def fCh_findBest_l23_b (p : Nat) (v1 : Int32) (v2 : Int32) (v3 : Int32) (h : jH) : Option ((Int32 × Int32 × jH) ⊕ (Int32 × jH)) :=
  (if v3 < (fPn_allSets p h) then
  (if (v3 &&& v1) = 0 then
  (Option.bind (fPy_canAsk p v3 h) (fun (z7 : Int32) =>
  (if z7 = 0 then
  fCh_findBest_l23_j115  p v1 v2 v3 h
  else
  (Option.bind (fPy_worthWith p v3 h) (fun (z9 : Int64 × jH) =>
  (if (fIn_bitCount v3) < (fIn_bitCount v2) then
  fCh_findBest_l23_j80  p v1 v2 v3 z9.1 1 z9.2
  else
  fCh_findBest_l23_j80  p v1 v2 v3 z9.1 0 z9.2))))))
  else
  fCh_findBest_l23_j115  p v1 v2 v3 h)
  else
  some (.inr (v2, h)))
noncomputable def fCh_findBest_l23 (p : Nat) (v1 : Int32) : (Int32 × Int32 × jH) → Option ((Int32 × Int32 × jH) ⊕ (Int32 × jH)) :=
  fun (s : Int32 × Int32 × jH) => fCh_findBest_l23_b p v1 s.1 s.2.1 s.2.2
theorem kCh_findBest_l23_b {X : jX} {dd : Nat} {p d : Nat} {q : Nat → Nat} {Q : Option Value → jS → Prop} {v1 : Int32} {v2 : Int32} {v3 : Int32} {h : jH} (hP : jOK p d q)  (hd : 6 ≤ (dd + 1)) {z : (Int32 × Int32 × jH) ⊕ (Int32 × jH)} (K : fCh_findBest_l23_b p v1 v2 v3 h = some z) (HL : ∀ s : Int32 × Int32 × jH, z = .inl s → jEx X (dd + 1) jc_125 23 [some (.ref 96), some (.int v1), some (.int s.1), some (.int s.2.1), none, none, none] [] (176, jRf p d q, s.2.2) Q) (HE0 : ∀ x : Int32 × jH, z = .inr x → jEx X (dd + 1) jc_125 121 [none, none, some (.int x.1), none, none, none, none] [] (176, jRf p d q, x.2) Q) :
    jEx X (dd + 1) jc_125 23 [some (.ref 96), some (.int v1), some (.int v2), some (.int v3), none, none, none] [] (176, jRf p d q, h) Q := by
  unfold fCh_findBest_l23_b at K
  refine jx_next (pc := 23) (pc' := 24) rfl rfl ?_
  refine jx_next (pc := 24) (pc' := 25) rfl rfl ?_
  refine jx_getr2 (pc := 25) rfl jko_96 jr_11_0 ?_
  refine jx_callv (pc := 28) (o := 79) (rest := [.int v3]) rfl ⟨by decide, by decide⟩ rfl jko_79 (Nat.le_of_ble_eq_true rfl) ?_
  refine kPy_plan hP (by omega) rfl ?_
  refine jx_callv (pc := 31) (o := p) (rest := [.int v3]) rfl ⟨by decide, by decide⟩ rfl hP.1 (Nat.le_of_ble_eq_true rfl) ?_
  refine kPn_allSets hP hP.1 (by omega) rfl ?_
  refine jx_icge (pc := 34) rfl (fun hc5 => ?_) (fun hc5 => ?_)
  · replace K := (if_pos hc5).symm.trans K
    refine jx_next (pc := 37) (pc' := 38) rfl rfl ?_
    refine jx_next (pc := 38) (pc' := 39) rfl rfl ?_
    refine jx_next (pc := 39) (pc' := 40) rfl rfl ?_
    refine jx_ifne (pc := 40) rfl (fun hc6 => ?_) (fun hc6 => ?_)
    · replace K := (if_pos hc6).symm.trans K
      refine jx_next (pc := 43) (pc' := 44) rfl rfl ?_
      refine jx_getr2 (pc := 44) rfl jko_96 jr_11_0 ?_
      refine jx_next (pc := 47) (pc' := 48) rfl rfl ?_
      refine jx_callv (pc := 48) (o := 79) (rest := []) rfl ⟨by decide, by decide⟩ rfl jko_79 (Nat.le_of_ble_eq_true rfl) ?_
      obtain ⟨z7, hz_z7, K⟩ := Option.bind_eq_some_iff.mp K
      refine kPy_canAsk hP (by omega) hz_z7 ?_
      refine jx_ifeq (pc := 51) rfl (fun hc8 => ?_) (fun hc8 => ?_)
      · replace K := (if_pos hc8).symm.trans K
        refine jx_le (pl' := [some (.ref 96), some (.int v1), some (.int v2), some (.int v3), none, none, none]) (jle_v (jle_v (jle_v (jle_v (jle_n (jle_n (jle_n jle_nil))))))) ?_
        exact kCh_findBest_l23_j115 hP  hd K HL HE0
      · replace K := (if_neg hc8).symm.trans K
        refine jx_next (pc := 54) (pc' := 55) rfl rfl ?_
        refine jx_getr2 (pc := 55) rfl jko_96 jr_11_0 ?_
        refine jx_next (pc := 58) (pc' := 59) rfl rfl ?_
        refine jx_callv (pc := 59) (o := 79) (rest := []) rfl ⟨by decide, by decide⟩ rfl jko_79 (Nat.le_of_ble_eq_true rfl) ?_
        obtain ⟨z9, hz_z9, K⟩ := Option.bind_eq_some_iff.mp K
        refine kPy_worthWith hP (by omega) hz_z9 ?_
        refine jx_stl (pc := 62) (p2 := [some (.ref 96), some (.int v1), some (.int v2), some (.int v3), some (.long z9.1), none, none]) rfl (jlt rfl) rfl ?_
        refine jx_next (pc := 64) (pc' := 65) rfl rfl ?_
        refine jx_calls (pc := 65) rfl (Nat.le_of_ble_eq_true rfl) (Nat.le_of_ble_eq_true rfl) ?_
        refine kIn_bitCount  (by omega) rfl ?_
        refine jx_next (pc := 68) (pc' := 69) rfl rfl ?_
        refine jx_calls (pc := 69) rfl (Nat.le_of_ble_eq_true rfl) (Nat.le_of_ble_eq_true rfl) ?_
        refine kIn_bitCount  (by omega) rfl ?_
        refine jx_icge (pc := 72) rfl (fun hc12 => ?_) (fun hc12 => ?_)
        · replace K := (if_pos hc12).symm.trans K
          refine jx_next (pc := 75) (pc' := 76) rfl rfl ?_
          refine jx_next (pc := 76) (pc' := 80) rfl rfl ?_
          refine jx_le (pl' := [some (.ref 96), some (.int v1), some (.int v2), some (.int v3), some (.long z9.1), none, none]) (jle_v (jle_v (jle_v (jle_v (jle_v (jle_n (jle_n jle_nil))))))) ?_
          exact kCh_findBest_l23_j80 hP  hd K HL HE0
        · replace K := (if_neg hc12).symm.trans K
          refine jx_next (pc := 79) (pc' := 80) rfl rfl ?_
          refine jx_le (pl' := [some (.ref 96), some (.int v1), some (.int v2), some (.int v3), some (.long z9.1), none, none]) (jle_v (jle_v (jle_v (jle_v (jle_v (jle_n (jle_n jle_nil))))))) ?_
          exact kCh_findBest_l23_j80 hP  hd K HL HE0
    · replace K := (if_neg hc6).symm.trans K
      refine jx_le (pl' := [some (.ref 96), some (.int v1), some (.int v2), some (.int v3), none, none, none]) (jle_v (jle_v (jle_v (jle_v (jle_n (jle_n (jle_n jle_nil))))))) ?_
      exact kCh_findBest_l23_j115 hP  hd K HL HE0
  · replace K := (if_neg hc5).symm.trans K
    obtain rfl := Option.some.inj K
    refine jx_le (pl' := [none, none, some (.int v2), none, none, none, none]) (jle_n (jle_n (jle_v (jle_n (jle_n (jle_n (jle_n jle_nil))))))) ?_
    exact HE0 _ rfl
theorem kCh_findBest_l23_w {X : jX} {dd : Nat} {p d : Nat} {q : Nat → Nat} {Q : Option Value → jS → Prop} {v1 : Int32} (hP : jOK p d q)  (hd : 6 ≤ (dd + 1)) {s : Int32 × Int32 × jH} {x : Int32 × jH} (K : jlim (fCh_findBest_l23 p v1) s = some x) (HE : jEx X (dd + 1) jc_125 121 [none, none, some (.int x.1), none, none, none, none] [] (176, jRf p d q, x.2) Q) :
    jEx X (dd + 1) jc_125 23 [some (.ref 96), some (.int v1), some (.int s.1), some (.int s.2.1), none, none, none] [] (176, jRf p d q, s.2.2) Q := by
  refine jlim_ok (G := fun s : Int32 × Int32 × jH => jEx X (dd + 1) jc_125 23 [some (.ref 96), some (.int v1), some (.int s.1), some (.int s.2.1), none, none, none] [] (176, jRf p d q, s.2.2) Q) (GX := fun x : Int32 × jH => jEx X (dd + 1) jc_125 121 [none, none, some (.int x.1), none, none, none, none] [] (176, jRf p d q, x.2) Q) (fun s z hz HL HE => ?_) K HE
  exact kCh_findBest_l23_b hP  hd hz HL HE
/-- AndGuest$Choices.findBest(I)I -/
noncomputable def fCh_findBest (p : Nat) (v1 : Int32) (h : jH) : Option (Int32 × jH) :=
  (Option.bind (fPy_weighCards p h) (fun (z1 : jH) =>
  (Option.bind (fPy_worthWith p 0 z1) (fun (z2 : Int64 × jH) =>
  (Option.bind (jlim (fCh_findBest_l23  p v1) (0, 1, jhL z2.2 96 1 z2.1)) (fun (x16 : Int32 × jH) =>
  some (x16.1, x16.2)))))))
theorem kCh_findBest {X : jX} {dd : Nat} {p d : Nat} {q : Nat → Nat} {Q : Option Value → jS → Prop} {v1 : Int32} {h : jH} (hP : jOK p d q)  (hd : 6 ≤ dd) {z : Int32 × jH} (K : fCh_findBest p v1 h = some z) (HQ : Q (some (.int z.1)) (176, jRf p d q, z.2)) :
    jCa X dd 125 [.ref 96, .int v1] (176, jRf p d q, h) Q := by
  obtain ⟨dd, rfl⟩ : ∃ d9, dd = d9 + 1 := ⟨dd - 1, by omega⟩
  unfold fCh_findBest at K
  refine jCa_of (es := jc_125) (pl := [some (.ref 96), some (.int v1), none, none, none, none, none]) (M := jm_125) rfl rfl rfl rfl ?_
  refine jx_next (pc := 0) (pc' := 1) rfl rfl ?_
  refine jx_getr2 (pc := 1) rfl jko_96 jr_11_0 ?_
  refine jx_callv (pc := 4) (o := 79) (rest := []) rfl ⟨by decide, by decide⟩ rfl jko_79 (Nat.le_of_ble_eq_true rfl) ?_
  obtain ⟨z1, hz_z1, K⟩ := Option.bind_eq_some_iff.mp K
  refine kPy_weighCards hP (by omega) hz_z1 ?_
  refine jx_next (pc := 7) (pc' := 8) rfl rfl ?_
  refine jx_stin (pc := 8) (p2 := [some (.ref 96), some (.int v1), some (.int 0), none, none, none, none]) rfl (jlt rfl) rfl ?_
  refine jx_next (pc := 9) (pc' := 10) rfl rfl ?_
  refine jx_next (pc := 10) (pc' := 11) rfl rfl ?_
  refine jx_getr2 (pc := 11) rfl jko_96 jr_11_0 ?_
  refine jx_next (pc := 14) (pc' := 15) rfl rfl ?_
  refine jx_callv (pc := 15) (o := 79) (rest := [.ref 96]) rfl ⟨by decide, by decide⟩ rfl jko_79 (Nat.le_of_ble_eq_true rfl) ?_
  obtain ⟨z2, hz_z2, K⟩ := Option.bind_eq_some_iff.mp K
  refine kPy_worthWith hP (by omega) hz_z2 ?_
  refine jx_putl (pc := 18) rfl jko_96 ?_
  refine jx_next (pc := 21) (pc' := 22) rfl rfl ?_
  refine jx_stin (pc := 22) (p2 := [some (.ref 96), some (.int v1), some (.int 0), some (.int 1), none, none, none]) rfl (jlt rfl) rfl ?_
  refine jx_le (pl' := [some (.ref 96), some (.int v1), some (.int 0), some (.int 1), none, none, none]) (jle_v (jle_v (jle_v (jle_v (jle_n (jle_n (jle_n jle_nil))))))) ?_
  obtain ⟨x16, hz_x16, K⟩ := Option.bind_eq_some_iff.mp K
  refine kCh_findBest_l23_w hP  hd hz_x16 ?_
  refine jx_next (pc := 121) (pc' := 122) rfl rfl ?_
  obtain rfl := Option.some.inj K
  exact jx_iret (pc := 122) rfl HQ
/-- AndGuest.best()I -/
noncomputable def fA_best (p : Nat)  (h : jH) : Option (Int32 × jH) :=
  (if (h.1 1 12) = 0 then
  some ((-1), h)
  else
  (Option.bind (fCh_findBest p 0 h) (fun (z2 : Int32 × jH) =>
  some (z2.1, z2.2))))
theorem kA_best {X : jX} {dd : Nat} {p d : Nat} {q : Nat → Nat} {Q : Option Value → jS → Prop}  {h : jH} (hP : jOK p d q)  (hd : 7 ≤ dd) {z : Int32 × jH} (K : fA_best p  h = some z) (HQ : Q (some (.int z.1)) (176, jRf p d q, z.2)) :
    jCa X dd 124 [.ref 1] (176, jRf p d q, h) Q := by
  obtain ⟨dd, rfl⟩ : ∃ d9, dd = d9 + 1 := ⟨dd - 1, by omega⟩
  unfold fA_best at K
  refine jCa_of (es := jc_124) (pl := [some (.ref 1)]) (M := jm_124) rfl rfl rfl rfl ?_
  refine jx_next (pc := 0) (pc' := 1) rfl rfl ?_
  refine jx_getz (pc := 1) rfl jko_1 ?_
  refine jx_ifeq (pc := 4) rfl (fun hc1 => ?_) (fun hc1 => ?_)
  · replace K := (if_pos hc1).symm.trans K
    refine jx_next (pc := 18) (pc' := 19) rfl rfl ?_
    obtain rfl := Option.some.inj K
    exact jx_iret (pc := 19) rfl HQ
  · replace K := (if_neg hc1).symm.trans K
    refine jx_next (pc := 7) (pc' := 8) rfl rfl ?_
    refine jx_getr2 (pc := 8) rfl jko_1 jr_1_9 ?_
    refine jx_next (pc := 11) (pc' := 12) rfl rfl ?_
    refine jx_callv (pc := 12) (o := 96) (rest := []) rfl ⟨by decide, by decide⟩ rfl jko_96 (Nat.le_of_ble_eq_true rfl) ?_
    obtain ⟨z2, hz_z2, K⟩ := Option.bind_eq_some_iff.mp K
    refine kCh_findBest hP (by omega) hz_z2 ?_
    refine jx_next (pc := 15) (pc' := 19) rfl rfl ?_
    obtain rfl := Option.some.inj K
    exact jx_iret (pc := 19) rfl HQ
noncomputable def fPn_sumOver_l5_j38 (o : Nat) (v1 : Int32) (v2 : Nat) (v3 : Int32) (v4 : Int32) (h : jH) : Option ((Int32 × Int32) ⊕ (Int32)) :=
  some (.inl (v3, v4 + 1))
theorem kPn_sumOver_l5_j38 {X : jX} {dd : Nat} {p d : Nat} {q : Nat → Nat} {Q : Option Value → jS → Prop} {o : Nat} {v1 : Int32} {v2 : Nat} {v3 : Int32} {v4 : Int32} {h : jH} (hP : jOK p d q) (ho : jcl 176 o = 10) (hv2 : jcl 176 v2 = 20) (hd : 0 ≤ dd) {z : (Int32 × Int32) ⊕ (Int32)} (K : fPn_sumOver_l5_j38 o v1 v2 v3 v4 h = some z) (HL : ∀ s : Int32 × Int32, z = .inl s → jEx X dd jc_128 5 [some (.ref o), some (.int v1), some (.ref v2), some (.int s.1), some (.int s.2)] [] (176, jRf p d q, h) Q) (HE0 : ∀ x : Int32, z = .inr x → jEx X dd jc_128 44 [none, none, none, some (.int x), none] [] (176, jRf p d q, h) Q) :
    jEx X dd jc_128 38 [some (.ref o), some (.int v1), some (.ref v2), some (.int v3), some (.int v4)] [] (176, jRf p d q, h) Q := by
  unfold fPn_sumOver_l5_j38 at K
  refine jx_inc (pc := 38) (x := v4) (p2 := [some (.ref o), some (.int v1), some (.ref v2), some (.int v3), some (.int (v4 + 1))]) rfl rfl (jlt rfl) rfl ?_
  refine jx_next (pc := 41) (pc' := 5) rfl rfl ?_
  obtain rfl := Option.some.inj K
  refine jx_le (pl' := [some (.ref o), some (.int v1), some (.ref v2), some (.int v3), some (.int (v4 + 1))]) (jle_v (jle_v (jle_v (jle_v (jle_v jle_nil))))) ?_
  exact HL (v3, v4 + 1) rfl
noncomputable def fPn_sumOver_l5_b (o : Nat) (v1 : Int32) (v2 : Nat) (v3 : Int32) (v4 : Int32) (h : jH) : Option ((Int32 × Int32) ⊕ (Int32)) :=
  (if v4 < (h.1 o 0) then
  (if v4 < (Int32.ofNat (jsh v2).2) then
  (if ((v1 >>> (v4 &&& 31)) &&& 1) = 1 then
  (if jin v4 (jsh v2).2 then
  fPn_sumOver_l5_j38  o v1 v2 (v3 + (h.1 v2 v4.toNatClampNeg)) v4 h
  else none)
  else
  fPn_sumOver_l5_j38  o v1 v2 v3 v4 h)
  else
  some (.inr v3))
  else
  some (.inr v3))
noncomputable def fPn_sumOver_l5 (o : Nat) (v1 : Int32) (v2 : Nat) (h : jH) : (Int32 × Int32) → Option ((Int32 × Int32) ⊕ (Int32)) :=
  fun (s : Int32 × Int32) => fPn_sumOver_l5_b o v1 v2 s.1 s.2 h
theorem kPn_sumOver_l5_b {X : jX} {dd : Nat} {p d : Nat} {q : Nat → Nat} {Q : Option Value → jS → Prop} {o : Nat} {v1 : Int32} {v2 : Nat} {v3 : Int32} {v4 : Int32} {h : jH} (hP : jOK p d q) (ho : jcl 176 o = 10) (hv2 : jcl 176 v2 = 20) (hd : 0 ≤ dd) {z : (Int32 × Int32) ⊕ (Int32)} (K : fPn_sumOver_l5_b o v1 v2 v3 v4 h = some z) (HL : ∀ s : Int32 × Int32, z = .inl s → jEx X dd jc_128 5 [some (.ref o), some (.int v1), some (.ref v2), some (.int s.1), some (.int s.2)] [] (176, jRf p d q, h) Q) (HE0 : ∀ x : Int32, z = .inr x → jEx X dd jc_128 44 [none, none, none, some (.int x), none] [] (176, jRf p d q, h) Q) :
    jEx X dd jc_128 5 [some (.ref o), some (.int v1), some (.ref v2), some (.int v3), some (.int v4)] [] (176, jRf p d q, h) Q := by
  unfold fPn_sumOver_l5_b at K
  refine jx_next (pc := 5) (pc' := 7) rfl rfl ?_
  refine jx_next (pc := 7) (pc' := 8) rfl rfl ?_
  refine jx_geti (pc := 8) rfl ho ?_
  refine jx_icge (pc := 11) rfl (fun hc1 => ?_) (fun hc1 => ?_)
  · replace K := (if_pos hc1).symm.trans K
    refine jx_next (pc := 14) (pc' := 16) rfl rfl ?_
    refine jx_next (pc := 16) (pc' := 17) rfl rfl ?_
    refine jx_alen (pc := 17) rfl hv2 ⟨by decide, by decide⟩ ?_
    refine jx_icge (pc := 18) rfl (fun hc2 => ?_) (fun hc2 => ?_)
    · replace K := (if_pos hc2).symm.trans K
      refine jx_next (pc := 21) (pc' := 22) rfl rfl ?_
      refine jx_next (pc := 22) (pc' := 24) rfl rfl ?_
      refine jx_next (pc := 24) (pc' := 25) rfl rfl ?_
      refine jx_next (pc := 25) (pc' := 26) rfl rfl ?_
      refine jx_next (pc := 26) (pc' := 27) rfl rfl ?_
      refine jx_next (pc := 27) (pc' := 28) rfl rfl ?_
      refine jx_icne (pc := 28) rfl (fun hc3 => ?_) (fun hc3 => ?_)
      · replace K := (if_pos hc3).symm.trans K
        refine jx_next (pc := 31) (pc' := 32) rfl rfl ?_
        refine jx_next (pc := 32) (pc' := 33) rfl rfl ?_
        refine jx_next (pc := 33) (pc' := 35) rfl rfl ?_
        obtain ⟨hg4, K⟩ := jguard K
        refine jx_iald2 (pc := 35) rfl hv2 rfl hg4 ?_
        refine jx_next (pc := 36) (pc' := 37) rfl rfl ?_
        refine jx_stin (pc := 37) (p2 := [some (.ref o), some (.int v1), some (.ref v2), some (.int (v3 + (h.1 v2 v4.toNatClampNeg))), some (.int v4)]) rfl (jlt rfl) rfl ?_
        refine jx_le (pl' := [some (.ref o), some (.int v1), some (.ref v2), some (.int (v3 + (h.1 v2 v4.toNatClampNeg))), some (.int v4)]) (jle_v (jle_v (jle_v (jle_v (jle_v jle_nil))))) ?_
        exact kPn_sumOver_l5_j38 hP ho hv2 hd K HL HE0
      · replace K := (if_neg hc3).symm.trans K
        refine jx_le (pl' := [some (.ref o), some (.int v1), some (.ref v2), some (.int v3), some (.int v4)]) (jle_v (jle_v (jle_v (jle_v (jle_v jle_nil))))) ?_
        exact kPn_sumOver_l5_j38 hP ho hv2 hd K HL HE0
    · replace K := (if_neg hc2).symm.trans K
      obtain rfl := Option.some.inj K
      refine jx_le (pl' := [none, none, none, some (.int v3), none]) (jle_n (jle_n (jle_n (jle_v (jle_n jle_nil))))) ?_
      exact HE0 _ rfl
  · replace K := (if_neg hc1).symm.trans K
    obtain rfl := Option.some.inj K
    refine jx_le (pl' := [none, none, none, some (.int v3), none]) (jle_n (jle_n (jle_n (jle_v (jle_n jle_nil))))) ?_
    exact HE0 _ rfl
theorem kPn_sumOver_l5_w {X : jX} {dd : Nat} {p d : Nat} {q : Nat → Nat} {Q : Option Value → jS → Prop} {o : Nat} {v1 : Int32} {v2 : Nat} {h : jH} (hP : jOK p d q) (ho : jcl 176 o = 10) (hv2 : jcl 176 v2 = 20) (hd : 0 ≤ dd) {s : Int32 × Int32} {x : Int32} (K : jlim (fPn_sumOver_l5 o v1 v2 h) s = some x) (HE : jEx X dd jc_128 44 [none, none, none, some (.int x), none] [] (176, jRf p d q, h) Q) :
    jEx X dd jc_128 5 [some (.ref o), some (.int v1), some (.ref v2), some (.int s.1), some (.int s.2)] [] (176, jRf p d q, h) Q := by
  refine jlim_ok (G := fun s : Int32 × Int32 => jEx X dd jc_128 5 [some (.ref o), some (.int v1), some (.ref v2), some (.int s.1), some (.int s.2)] [] (176, jRf p d q, h) Q) (GX := fun x : Int32 => jEx X dd jc_128 44 [none, none, none, some (.int x), none] [] (176, jRf p d q, h) Q) (fun s z hz HL HE => ?_) K HE
  exact kPn_sumOver_l5_b hP ho hv2 hd hz HL HE
/-- AndGuest$Plan.sumOver(I[I)I -/
noncomputable def fPn_sumOver (o : Nat) (v1 : Int32) (v2 : Nat) (h : jH) : Option Int32 :=
  (Option.bind (jlim (fPn_sumOver_l5  o v1 v2 h) (0, 0)) (fun (x5 : Int32) =>
  some (x5 : Int32)))
theorem kPn_sumOver {X : jX} {dd : Nat} {p d : Nat} {q : Nat → Nat} {Q : Option Value → jS → Prop} {o : Nat} {v1 : Int32} {v2 : Nat} {h : jH} (hP : jOK p d q) (ho : jcl 176 o = 10) (hv2 : jcl 176 v2 = 20) (hd : 0 ≤ dd) {z : Int32} (K : fPn_sumOver o v1 v2 h = some z) (HQ : Q (some (.int z)) (176, jRf p d q, h)) :
    jCa X dd 128 [.ref o, .int v1, .ref v2] (176, jRf p d q, h) Q := by
  unfold fPn_sumOver at K
  refine jCa_of (es := jc_128) (pl := [some (.ref o), some (.int v1), some (.ref v2), none, none]) (M := jm_128) rfl rfl rfl rfl ?_
  refine jx_next (pc := 0) (pc' := 1) rfl rfl ?_
  refine jx_stin (pc := 1) (p2 := [some (.ref o), some (.int v1), some (.ref v2), some (.int 0), none]) rfl (jlt rfl) rfl ?_
  refine jx_next (pc := 2) (pc' := 3) rfl rfl ?_
  refine jx_sti (pc := 3) (p2 := [some (.ref o), some (.int v1), some (.ref v2), some (.int 0), some (.int 0)]) rfl (jlt rfl) rfl ?_
  refine jx_le (pl' := [some (.ref o), some (.int v1), some (.ref v2), some (.int 0), some (.int 0)]) (jle_v (jle_v (jle_v (jle_v (jle_v jle_nil))))) ?_
  obtain ⟨x5, hz_x5, K⟩ := Option.bind_eq_some_iff.mp K
  refine kPn_sumOver_l5_w hP ho hv2 hd hz_x5 ?_
  refine jx_next (pc := 44) (pc' := 45) rfl rfl ?_
  obtain rfl := Option.some.inj K
  exact jx_iret (pc := 45) rfl HQ
noncomputable def fCh_slightsBy_l4_j29 (v0 : Nat) (v1 : Int32) (v2 : Int32) (v3 : Int32) (h : jH) : Option ((Int32 × Int32) ⊕ (Int32)) :=
  some (.inl (v2, v3 + 1))
theorem kCh_slightsBy_l4_j29 {X : jX} {dd : Nat} {p d : Nat} {q : Nat → Nat} {Q : Option Value → jS → Prop} {v0 : Nat} {v1 : Int32} {v2 : Int32} {v3 : Int32} {h : jH} (hP : jOK p d q) (hv0 : jcl 176 v0 = 10) (hd : 1 ≤ (dd + 1)) {z : (Int32 × Int32) ⊕ (Int32)} (K : fCh_slightsBy_l4_j29 v0 v1 v2 v3 h = some z) (HL : ∀ s : Int32 × Int32, z = .inl s → jEx X (dd + 1) jc_129 4 [some (.ref v0), some (.int v1), some (.int s.1), some (.int s.2)] [] (176, jRf p d q, h) Q) (HE0 : ∀ x : Int32, z = .inr x → jEx X (dd + 1) jc_129 35 [none, none, some (.int x), none] [] (176, jRf p d q, h) Q) :
    jEx X (dd + 1) jc_129 29 [some (.ref v0), some (.int v1), some (.int v2), some (.int v3)] [] (176, jRf p d q, h) Q := by
  unfold fCh_slightsBy_l4_j29 at K
  refine jx_inc (pc := 29) (x := v3) (p2 := [some (.ref v0), some (.int v1), some (.int v2), some (.int (v3 + 1))]) rfl rfl (jlt rfl) rfl ?_
  refine jx_next (pc := 32) (pc' := 4) rfl rfl ?_
  obtain rfl := Option.some.inj K
  refine jx_le (pl' := [some (.ref v0), some (.int v1), some (.int v2), some (.int (v3 + 1))]) (jle_v (jle_v (jle_v (jle_v jle_nil)))) ?_
  exact HL (v2, v3 + 1) rfl
noncomputable def fCh_slightsBy_l4_b (v0 : Nat) (v1 : Int32) (v2 : Int32) (v3 : Int32) (h : jH) : Option ((Int32 × Int32) ⊕ (Int32)) :=
  (if v3 < (h.1 v0 0) then
  (if ((v1 >>> (v3 &&& 31)) &&& 1) = 0 then
  (Option.bind (fPn_slightIfAsked v0 v3 v1 h) (fun (z3 : Int32) =>
  fCh_slightsBy_l4_j29  v0 v1 (v2 + z3) v3 h))
  else
  fCh_slightsBy_l4_j29  v0 v1 v2 v3 h)
  else
  some (.inr v2))
noncomputable def fCh_slightsBy_l4 (v0 : Nat) (v1 : Int32) (h : jH) : (Int32 × Int32) → Option ((Int32 × Int32) ⊕ (Int32)) :=
  fun (s : Int32 × Int32) => fCh_slightsBy_l4_b v0 v1 s.1 s.2 h
theorem kCh_slightsBy_l4_b {X : jX} {dd : Nat} {p d : Nat} {q : Nat → Nat} {Q : Option Value → jS → Prop} {v0 : Nat} {v1 : Int32} {v2 : Int32} {v3 : Int32} {h : jH} (hP : jOK p d q) (hv0 : jcl 176 v0 = 10) (hd : 1 ≤ (dd + 1)) {z : (Int32 × Int32) ⊕ (Int32)} (K : fCh_slightsBy_l4_b v0 v1 v2 v3 h = some z) (HL : ∀ s : Int32 × Int32, z = .inl s → jEx X (dd + 1) jc_129 4 [some (.ref v0), some (.int v1), some (.int s.1), some (.int s.2)] [] (176, jRf p d q, h) Q) (HE0 : ∀ x : Int32, z = .inr x → jEx X (dd + 1) jc_129 35 [none, none, some (.int x), none] [] (176, jRf p d q, h) Q) :
    jEx X (dd + 1) jc_129 4 [some (.ref v0), some (.int v1), some (.int v2), some (.int v3)] [] (176, jRf p d q, h) Q := by
  unfold fCh_slightsBy_l4_b at K
  refine jx_next (pc := 4) (pc' := 5) rfl rfl ?_
  refine jx_next (pc := 5) (pc' := 6) rfl rfl ?_
  refine jx_geti (pc := 6) rfl hv0 ?_
  refine jx_icge (pc := 9) rfl (fun hc1 => ?_) (fun hc1 => ?_)
  · replace K := (if_pos hc1).symm.trans K
    refine jx_next (pc := 12) (pc' := 13) rfl rfl ?_
    refine jx_next (pc := 13) (pc' := 14) rfl rfl ?_
    refine jx_next (pc := 14) (pc' := 15) rfl rfl ?_
    refine jx_next (pc := 15) (pc' := 16) rfl rfl ?_
    refine jx_next (pc := 16) (pc' := 17) rfl rfl ?_
    refine jx_ifne (pc := 17) rfl (fun hc2 => ?_) (fun hc2 => ?_)
    · replace K := (if_pos hc2).symm.trans K
      refine jx_next (pc := 20) (pc' := 21) rfl rfl ?_
      refine jx_next (pc := 21) (pc' := 22) rfl rfl ?_
      refine jx_next (pc := 22) (pc' := 23) rfl rfl ?_
      refine jx_next (pc := 23) (pc' := 24) rfl rfl ?_
      refine jx_callv (pc := 24) (o := v0) (rest := [.int v2]) rfl ⟨by decide, by decide⟩ rfl hv0 (Nat.le_of_ble_eq_true rfl) ?_
      obtain ⟨z3, hz_z3, K⟩ := Option.bind_eq_some_iff.mp K
      refine kPn_slightIfAsked hP hv0 (by omega) hz_z3 ?_
      refine jx_next (pc := 27) (pc' := 28) rfl rfl ?_
      refine jx_stin (pc := 28) (p2 := [some (.ref v0), some (.int v1), some (.int (v2 + z3)), some (.int v3)]) rfl (jlt rfl) rfl ?_
      refine jx_le (pl' := [some (.ref v0), some (.int v1), some (.int (v2 + z3)), some (.int v3)]) (jle_v (jle_v (jle_v (jle_v jle_nil)))) ?_
      exact kCh_slightsBy_l4_j29 hP hv0 hd K HL HE0
    · replace K := (if_neg hc2).symm.trans K
      refine jx_le (pl' := [some (.ref v0), some (.int v1), some (.int v2), some (.int v3)]) (jle_v (jle_v (jle_v (jle_v jle_nil)))) ?_
      exact kCh_slightsBy_l4_j29 hP hv0 hd K HL HE0
  · replace K := (if_neg hc1).symm.trans K
    obtain rfl := Option.some.inj K
    refine jx_le (pl' := [none, none, some (.int v2), none]) (jle_n (jle_n (jle_v (jle_n jle_nil)))) ?_
    exact HE0 _ rfl
theorem kCh_slightsBy_l4_w {X : jX} {dd : Nat} {p d : Nat} {q : Nat → Nat} {Q : Option Value → jS → Prop} {v0 : Nat} {v1 : Int32} {h : jH} (hP : jOK p d q) (hv0 : jcl 176 v0 = 10) (hd : 1 ≤ (dd + 1)) {s : Int32 × Int32} {x : Int32} (K : jlim (fCh_slightsBy_l4 v0 v1 h) s = some x) (HE : jEx X (dd + 1) jc_129 35 [none, none, some (.int x), none] [] (176, jRf p d q, h) Q) :
    jEx X (dd + 1) jc_129 4 [some (.ref v0), some (.int v1), some (.int s.1), some (.int s.2)] [] (176, jRf p d q, h) Q := by
  refine jlim_ok (G := fun s : Int32 × Int32 => jEx X (dd + 1) jc_129 4 [some (.ref v0), some (.int v1), some (.int s.1), some (.int s.2)] [] (176, jRf p d q, h) Q) (GX := fun x : Int32 => jEx X (dd + 1) jc_129 35 [none, none, some (.int x), none] [] (176, jRf p d q, h) Q) (fun s z hz HL HE => ?_) K HE
  exact kCh_slightsBy_l4_b hP hv0 hd hz HL HE
/-- AndGuest$Choices.slightsBy(LAndGuest$Plan;I)I -/
noncomputable def fCh_slightsBy (v0 : Nat) (v1 : Int32) (h : jH) : Option Int32 :=
  (Option.bind (jlim (fCh_slightsBy_l4  v0 v1 h) (0, 0)) (fun (x4 : Int32) =>
  some (x4 : Int32)))
theorem kCh_slightsBy {X : jX} {dd : Nat} {p d : Nat} {q : Nat → Nat} {Q : Option Value → jS → Prop} {v0 : Nat} {v1 : Int32} {h : jH} (hP : jOK p d q) (hv0 : jcl 176 v0 = 10) (hd : 1 ≤ dd) {z : Int32} (K : fCh_slightsBy v0 v1 h = some z) (HQ : Q (some (.int z)) (176, jRf p d q, h)) :
    jCa X dd 129 [.ref v0, .int v1] (176, jRf p d q, h) Q := by
  obtain ⟨dd, rfl⟩ : ∃ d9, dd = d9 + 1 := ⟨dd - 1, by omega⟩
  unfold fCh_slightsBy at K
  refine jCa_of (es := jc_129) (pl := [some (.ref v0), some (.int v1), none, none]) (M := jm_129) rfl rfl rfl rfl ?_
  refine jx_next (pc := 0) (pc' := 1) rfl rfl ?_
  refine jx_stin (pc := 1) (p2 := [some (.ref v0), some (.int v1), some (.int 0), none]) rfl (jlt rfl) rfl ?_
  refine jx_next (pc := 2) (pc' := 3) rfl rfl ?_
  refine jx_stin (pc := 3) (p2 := [some (.ref v0), some (.int v1), some (.int 0), some (.int 0)]) rfl (jlt rfl) rfl ?_
  refine jx_le (pl' := [some (.ref v0), some (.int v1), some (.int 0), some (.int 0)]) (jle_v (jle_v (jle_v (jle_v jle_nil)))) ?_
  obtain ⟨x4, hz_x4, K⟩ := Option.bind_eq_some_iff.mp K
  refine kCh_slightsBy_l4_w hP hv0 hd hz_x4 ?_
  refine jx_next (pc := 35) (pc' := 36) rfl rfl ?_
  obtain rfl := Option.some.inj K
  exact jx_iret (pc := 36) rfl HQ
noncomputable def fCh_findSafe_l25_j119 (p : Nat) (v2 : Int32) (h : jH) : Option ((Int32 × jH) ⊕ (jH)) :=
  some (.inl (v2 + 1, h))
theorem kCh_findSafe_l25_j119 {X : jX} {dd : Nat} {p d : Nat} {q : Nat → Nat} {Q : Option Value → jS → Prop} {v2 : Int32} {h : jH} (hP : jOK p d q)  (hd : 2 ≤ (dd + 1)) {z : (Int32 × jH) ⊕ (jH)} (K : fCh_findSafe_l25_j119 p v2 h = some z) (HL : ∀ s : Int32 × jH, z = .inl s → jEx X (dd + 1) jc_127 25 [some (.ref 96), some (.ref p), some (.int s.1), none, none] [] (176, jRf p d q, s.2) Q) (HE0 : ∀ x : jH, z = .inr x → jEx X (dd + 1) jc_127 125 [none, none, none, none, none] [] (176, jRf p d q, x) Q) :
    jEx X (dd + 1) jc_127 119 [some (.ref 96), some (.ref p), some (.int v2), none, none] [] (176, jRf p d q, h) Q := by
  unfold fCh_findSafe_l25_j119 at K
  refine jx_inc (pc := 119) (x := v2) (p2 := [some (.ref 96), some (.ref p), some (.int (v2 + 1)), none, none]) rfl rfl (jlt rfl) rfl ?_
  refine jx_next (pc := 122) (pc' := 25) rfl rfl ?_
  obtain rfl := Option.some.inj K
  refine jx_le (pl' := [some (.ref 96), some (.ref p), some (.int (v2 + 1)), none, none]) (jle_v (jle_v (jle_v (jle_n (jle_n jle_nil))))) ?_
  exact HL (v2 + 1, h) rfl
noncomputable def fCh_findSafe_l25_j103 (p : Nat) (v2 : Int32) (v3 : Int32) (v4 : Int32) (h : jH) : Option ((Int32 × jH) ⊕ (jH)) :=
  fCh_findSafe_l25_j119  p v2 (jhI (jhI (jhI h 96 2 v2) 96 3 v3) 96 4 v4)
theorem kCh_findSafe_l25_j103 {X : jX} {dd : Nat} {p d : Nat} {q : Nat → Nat} {Q : Option Value → jS → Prop} {v2 : Int32} {v3 : Int32} {v4 : Int32} {h : jH} (hP : jOK p d q)  (hd : 2 ≤ (dd + 1)) {z : (Int32 × jH) ⊕ (jH)} (K : fCh_findSafe_l25_j103 p v2 v3 v4 h = some z) (HL : ∀ s : Int32 × jH, z = .inl s → jEx X (dd + 1) jc_127 25 [some (.ref 96), some (.ref p), some (.int s.1), none, none] [] (176, jRf p d q, s.2) Q) (HE0 : ∀ x : jH, z = .inr x → jEx X (dd + 1) jc_127 125 [none, none, none, none, none] [] (176, jRf p d q, x) Q) :
    jEx X (dd + 1) jc_127 103 [some (.ref 96), some (.ref p), some (.int v2), some (.int v3), some (.int v4)] [] (176, jRf p d q, h) Q := by
  unfold fCh_findSafe_l25_j103 at K
  refine jx_next (pc := 103) (pc' := 104) rfl rfl ?_
  refine jx_next (pc := 104) (pc' := 105) rfl rfl ?_
  refine jx_puti (pc := 105) rfl jko_96 ?_
  refine jx_next (pc := 108) (pc' := 109) rfl rfl ?_
  refine jx_next (pc := 109) (pc' := 110) rfl rfl ?_
  refine jx_puti (pc := 110) rfl jko_96 ?_
  refine jx_next (pc := 113) (pc' := 114) rfl rfl ?_
  refine jx_next (pc := 114) (pc' := 116) rfl rfl ?_
  refine jx_puti (pc := 116) rfl jko_96 ?_
  refine jx_le (pl' := [some (.ref 96), some (.ref p), some (.int v2), none, none]) (jle_v (jle_v (jle_v (jle_n (jle_n jle_nil))))) ?_
  exact kCh_findSafe_l25_j119 hP  hd K HL HE0
noncomputable def fCh_findSafe_l25_b (p : Nat) (v2 : Int32) (h : jH) : Option ((Int32 × jH) ⊕ (jH)) :=
  (if v2 < (fPn_allSets p h) then
  (Option.bind (fPy_isWhole p v2 0 h) (fun (z4 : Int32) =>
  (if z4 = 0 then
  fCh_findSafe_l25_j119  p v2 h
  else
  (Option.bind (fPn_sumOver p v2 (p + 4) h) (fun (z6 : Int32) =>
  (if (h.1 p 3) < z6 then
  fCh_findSafe_l25_j119  p v2 h
  else
  (Option.bind (fCh_slightsBy p v2 h) (fun (z8 : Int32) =>
  (Option.bind (fPn_sumOver p v2 (p + 3) h) (fun (z9 : Int32) =>
  (if z8 < (h.1 96 3) then
  fCh_findSafe_l25_j103  p v2 z8 z9 h
  else
  (if z8 = (h.1 96 3) then
  (if (h.1 96 4) < z9 then
  fCh_findSafe_l25_j103  p v2 z8 z9 h
  else
  fCh_findSafe_l25_j119  p v2 h)
  else
  fCh_findSafe_l25_j119  p v2 h))))))))))))
  else
  some (.inr h))
noncomputable def fCh_findSafe_l25 (p : Nat)  : (Int32 × jH) → Option ((Int32 × jH) ⊕ (jH)) :=
  fun (s : Int32 × jH) => fCh_findSafe_l25_b p s.1 s.2
theorem kCh_findSafe_l25_b {X : jX} {dd : Nat} {p d : Nat} {q : Nat → Nat} {Q : Option Value → jS → Prop} {v2 : Int32} {h : jH} (hP : jOK p d q)  (hd : 2 ≤ (dd + 1)) {z : (Int32 × jH) ⊕ (jH)} (K : fCh_findSafe_l25_b p v2 h = some z) (HL : ∀ s : Int32 × jH, z = .inl s → jEx X (dd + 1) jc_127 25 [some (.ref 96), some (.ref p), some (.int s.1), none, none] [] (176, jRf p d q, s.2) Q) (HE0 : ∀ x : jH, z = .inr x → jEx X (dd + 1) jc_127 125 [none, none, none, none, none] [] (176, jRf p d q, x) Q) :
    jEx X (dd + 1) jc_127 25 [some (.ref 96), some (.ref p), some (.int v2), none, none] [] (176, jRf p d q, h) Q := by
  unfold fCh_findSafe_l25_b at K
  refine jx_next (pc := 25) (pc' := 26) rfl rfl ?_
  refine jx_next (pc := 26) (pc' := 27) rfl rfl ?_
  refine jx_callv (pc := 27) (o := p) (rest := [.int v2]) rfl ⟨by decide, by decide⟩ rfl hP.1 (Nat.le_of_ble_eq_true rfl) ?_
  refine kPn_allSets hP hP.1 (by omega) rfl ?_
  refine jx_icge (pc := 30) rfl (fun hc3 => ?_) (fun hc3 => ?_)
  · replace K := (if_pos hc3).symm.trans K
    refine jx_next (pc := 33) (pc' := 34) rfl rfl ?_
    refine jx_getr2 (pc := 34) rfl jko_96 jr_11_0 ?_
    refine jx_next (pc := 37) (pc' := 38) rfl rfl ?_
    refine jx_next (pc := 38) (pc' := 39) rfl rfl ?_
    refine jx_callv (pc := 39) (o := 79) (rest := []) rfl ⟨by decide, by decide⟩ rfl jko_79 (Nat.le_of_ble_eq_true rfl) ?_
    obtain ⟨z4, hz_z4, K⟩ := Option.bind_eq_some_iff.mp K
    refine kPy_isWhole hP (by omega) hz_z4 ?_
    refine jx_ifeq (pc := 42) rfl (fun hc5 => ?_) (fun hc5 => ?_)
    · replace K := (if_pos hc5).symm.trans K
      refine jx_le (pl' := [some (.ref 96), some (.ref p), some (.int v2), none, none]) (jle_v (jle_v (jle_v (jle_n (jle_n jle_nil))))) ?_
      exact kCh_findSafe_l25_j119 hP  hd K HL HE0
    · replace K := (if_neg hc5).symm.trans K
      refine jx_next (pc := 45) (pc' := 46) rfl rfl ?_
      refine jx_next (pc := 46) (pc' := 47) rfl rfl ?_
      refine jx_next (pc := 47) (pc' := 48) rfl rfl ?_
      refine jx_getr2 (pc := 48) rfl hP.1 (jrm_10_13 hP.1) ?_
      refine jx_callv (pc := 51) (o := p) (rest := []) rfl ⟨by decide, by decide⟩ rfl hP.1 (Nat.le_of_ble_eq_true rfl) ?_
      obtain ⟨z6, hz_z6, K⟩ := Option.bind_eq_some_iff.mp K
      refine kPn_sumOver hP hP.1 (jkm_10_13 hP.1) (by omega) hz_z6 ?_
      refine jx_next (pc := 54) (pc' := 55) rfl rfl ?_
      refine jx_geti (pc := 55) rfl hP.1 ?_
      refine jx_icgt (pc := 58) rfl (fun hc7 => ?_) (fun hc7 => ?_)
      · replace K := (if_pos hc7).symm.trans K
        refine jx_le (pl' := [some (.ref 96), some (.ref p), some (.int v2), none, none]) (jle_v (jle_v (jle_v (jle_n (jle_n jle_nil))))) ?_
        exact kCh_findSafe_l25_j119 hP  hd K HL HE0
      · replace K := (if_neg hc7).symm.trans K
        refine jx_next (pc := 61) (pc' := 62) rfl rfl ?_
        refine jx_next (pc := 62) (pc' := 63) rfl rfl ?_
        refine jx_calls (pc := 63) rfl (Nat.le_of_ble_eq_true rfl) (Nat.le_of_ble_eq_true rfl) ?_
        obtain ⟨z8, hz_z8, K⟩ := Option.bind_eq_some_iff.mp K
        refine kCh_slightsBy hP hP.1 (by omega) hz_z8 ?_
        refine jx_stin (pc := 66) (p2 := [some (.ref 96), some (.ref p), some (.int v2), some (.int z8), none]) rfl (jlt rfl) rfl ?_
        refine jx_next (pc := 67) (pc' := 68) rfl rfl ?_
        refine jx_next (pc := 68) (pc' := 69) rfl rfl ?_
        refine jx_next (pc := 69) (pc' := 70) rfl rfl ?_
        refine jx_getr2 (pc := 70) rfl hP.1 (jrm_10_12 hP.1) ?_
        refine jx_callv (pc := 73) (o := p) (rest := []) rfl ⟨by decide, by decide⟩ rfl hP.1 (Nat.le_of_ble_eq_true rfl) ?_
        obtain ⟨z9, hz_z9, K⟩ := Option.bind_eq_some_iff.mp K
        refine kPn_sumOver hP hP.1 (jkm_10_12 hP.1) (by omega) hz_z9 ?_
        refine jx_sti (pc := 76) (p2 := [some (.ref 96), some (.ref p), some (.int v2), some (.int z8), some (.int z9)]) rfl (jlt rfl) rfl ?_
        refine jx_next (pc := 78) (pc' := 79) rfl rfl ?_
        refine jx_next (pc := 79) (pc' := 80) rfl rfl ?_
        refine jx_geti (pc := 80) rfl jko_96 ?_
        refine jx_iclt (pc := 83) rfl (fun hc10 => ?_) (fun hc10 => ?_)
        · replace K := (if_pos hc10).symm.trans K
          refine jx_le (pl' := [some (.ref 96), some (.ref p), some (.int v2), some (.int z8), some (.int z9)]) (jle_v (jle_v (jle_v (jle_v (jle_v jle_nil))))) ?_
          exact kCh_findSafe_l25_j103 hP  hd K HL HE0
        · replace K := (if_neg hc10).symm.trans K
          refine jx_next (pc := 86) (pc' := 87) rfl rfl ?_
          refine jx_next (pc := 87) (pc' := 88) rfl rfl ?_
          refine jx_geti (pc := 88) rfl jko_96 ?_
          refine jx_icne (pc := 91) rfl (fun hc11 => ?_) (fun hc11 => ?_)
          · replace K := (if_pos hc11).symm.trans K
            refine jx_next (pc := 94) (pc' := 96) rfl rfl ?_
            refine jx_next (pc := 96) (pc' := 97) rfl rfl ?_
            refine jx_geti (pc := 97) rfl jko_96 ?_
            refine jx_icle (pc := 100) rfl (fun hc12 => ?_) (fun hc12 => ?_)
            · replace K := (if_pos hc12).symm.trans K
              refine jx_le (pl' := [some (.ref 96), some (.ref p), some (.int v2), some (.int z8), some (.int z9)]) (jle_v (jle_v (jle_v (jle_v (jle_v jle_nil))))) ?_
              exact kCh_findSafe_l25_j103 hP  hd K HL HE0
            · replace K := (if_neg hc12).symm.trans K
              refine jx_le (pl' := [some (.ref 96), some (.ref p), some (.int v2), none, none]) (jle_v (jle_v (jle_v (jle_n (jle_n jle_nil))))) ?_
              exact kCh_findSafe_l25_j119 hP  hd K HL HE0
          · replace K := (if_neg hc11).symm.trans K
            refine jx_le (pl' := [some (.ref 96), some (.ref p), some (.int v2), none, none]) (jle_v (jle_v (jle_v (jle_n (jle_n jle_nil))))) ?_
            exact kCh_findSafe_l25_j119 hP  hd K HL HE0
  · replace K := (if_neg hc3).symm.trans K
    obtain rfl := Option.some.inj K
    refine jx_le (pl' := [none, none, none, none, none]) (jle_n (jle_n (jle_n (jle_n (jle_n jle_nil))))) ?_
    exact HE0 _ rfl
theorem kCh_findSafe_l25_w {X : jX} {dd : Nat} {p d : Nat} {q : Nat → Nat} {Q : Option Value → jS → Prop}  (hP : jOK p d q)  (hd : 2 ≤ (dd + 1)) {s : Int32 × jH} {x : jH} (K : jlim (fCh_findSafe_l25 p ) s = some x) (HE : jEx X (dd + 1) jc_127 125 [none, none, none, none, none] [] (176, jRf p d q, x) Q) :
    jEx X (dd + 1) jc_127 25 [some (.ref 96), some (.ref p), some (.int s.1), none, none] [] (176, jRf p d q, s.2) Q := by
  refine jlim_ok (G := fun s : Int32 × jH => jEx X (dd + 1) jc_127 25 [some (.ref 96), some (.ref p), some (.int s.1), none, none] [] (176, jRf p d q, s.2) Q) (GX := fun x : jH => jEx X (dd + 1) jc_127 125 [none, none, none, none, none] [] (176, jRf p d q, x) Q) (fun s z hz HL HE => ?_) K HE
  exact kCh_findSafe_l25_b hP  hd hz HL HE
/-- AndGuest$Choices.findSafe()V -/
noncomputable def fCh_findSafe (p : Nat)  (h : jH) : Option jH :=
  (Option.bind (jlim (fCh_findSafe_l25  p) (1, jhI (jhI (jhI h 96 2 0) 96 3 0) 96 4 0)) (fun (x13 : jH) =>
  some x13))
theorem kCh_findSafe {X : jX} {dd : Nat} {p d : Nat} {q : Nat → Nat} {Q : Option Value → jS → Prop}  {h : jH} (hP : jOK p d q)  (hd : 2 ≤ dd) {z : jH} (K : fCh_findSafe p  h = some z) (HQ : Q none (176, jRf p d q, z)) :
    jCa X dd 127 [.ref 96] (176, jRf p d q, h) Q := by
  obtain ⟨dd, rfl⟩ : ∃ d9, dd = d9 + 1 := ⟨dd - 1, by omega⟩
  unfold fCh_findSafe at K
  refine jCa_of (es := jc_127) (pl := [some (.ref 96), none, none, none, none]) (M := jm_127) rfl rfl rfl rfl ?_
  refine jx_next (pc := 0) (pc' := 1) rfl rfl ?_
  refine jx_getr2 (pc := 1) rfl jko_96 jr_11_0 ?_
  refine jx_callv (pc := 4) (o := 79) (rest := []) rfl ⟨by decide, by decide⟩ rfl jko_79 (Nat.le_of_ble_eq_true rfl) ?_
  refine kPy_plan hP (by omega) rfl ?_
  refine jx_stan (pc := 7) (p2 := [some (.ref 96), some (.ref p), none, none, none]) rfl (jlt rfl) rfl ?_
  refine jx_next (pc := 8) (pc' := 9) rfl rfl ?_
  refine jx_next (pc := 9) (pc' := 10) rfl rfl ?_
  refine jx_puti (pc := 10) rfl jko_96 ?_
  refine jx_next (pc := 13) (pc' := 14) rfl rfl ?_
  refine jx_next (pc := 14) (pc' := 15) rfl rfl ?_
  refine jx_puti (pc := 15) rfl jko_96 ?_
  refine jx_next (pc := 18) (pc' := 19) rfl rfl ?_
  refine jx_next (pc := 19) (pc' := 20) rfl rfl ?_
  refine jx_puti (pc := 20) rfl jko_96 ?_
  refine jx_next (pc := 23) (pc' := 24) rfl rfl ?_
  refine jx_stin (pc := 24) (p2 := [some (.ref 96), some (.ref p), some (.int 1), none, none]) rfl (jlt rfl) rfl ?_
  refine jx_le (pl' := [some (.ref 96), some (.ref p), some (.int 1), none, none]) (jle_v (jle_v (jle_v (jle_n (jle_n jle_nil))))) ?_
  obtain ⟨x13, hz_x13, K⟩ := Option.bind_eq_some_iff.mp K
  refine kCh_findSafe_l25_w hP  hd hz_x13 ?_
  obtain rfl := Option.some.inj K
  exact jx_ret (pc := 125) rfl rfl HQ
