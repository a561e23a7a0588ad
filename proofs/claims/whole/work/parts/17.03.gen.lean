/-- AndGuest$Party.lateOffence(II)I -/
noncomputable def fPy_lateOffence (p : Nat) (v1 : Int32) (v2 : Int32) (h : jH) : Option (Int32 × jH) :=
  (Option.bind (fPy_fillFacts p v1 v2 h) (fun (z1 : jH) =>
  (Option.bind (fFo_valueFor (p + 9) 82 (p + 8) z1) (fun (z2 : Int32 × jH) =>
  some ((fMt_max 0 (fMt_min 999 z2.1)), z2.2)))))
theorem kPy_lateOffence {X : jX} {dd : Nat} {p d : Nat} {q : Nat → Nat} {Q : Option Value → jS → Prop} {v1 : Int32} {v2 : Int32} {h : jH} (hP : jOK p d q)  (hd : 4 ≤ dd) {z : Int32 × jH} (K : fPy_lateOffence p v1 v2 h = some z) (HQ : Q (some (.int z.1)) (176, jRf p d q, z.2)) :
    jCa X dd 88 [.ref 79, .int v1, .int v2] (176, jRf p d q, h) Q := by
  obtain ⟨dd, rfl⟩ : ∃ d9, dd = d9 + 1 := ⟨dd - 1, by omega⟩
  unfold fPy_lateOffence at K
  refine jCa_of (es := jc_88) (pl := [some (.ref 79), some (.int v1), some (.int v2), none]) (M := jm_88) rfl rfl rfl rfl ?_
  refine jx_next (pc := 0) (pc' := 1) rfl rfl ?_
  refine jx_next (pc := 1) (pc' := 2) rfl rfl ?_
  refine jx_next (pc := 2) (pc' := 3) rfl rfl ?_
  refine jx_callv (pc := 3) (o := 79) (rest := []) rfl ⟨by decide, by decide⟩ rfl jko_79 (Nat.le_of_ble_eq_true rfl) ?_
  obtain ⟨z1, hz_z1, K⟩ := Option.bind_eq_some_iff.mp K
  refine kPy_fillFacts hP (by omega) hz_z1 ?_
  refine jx_next (pc := 6) (pc' := 7) rfl rfl ?_
  refine jx_getr2 (pc := 7) rfl jko_79 jr_8_4 ?_
  refine jx_getr2 (pc := 10) rfl hP.1 (jrm_10_18 hP.1) ?_
  refine jx_next (pc := 13) (pc' := 14) rfl rfl ?_
  refine jx_getr2 (pc := 14) rfl jko_79 jr_8_2 ?_
  refine jx_next (pc := 17) (pc' := 18) rfl rfl ?_
  refine jx_getr2 (pc := 18) rfl jko_79 jr_8_4 ?_
  refine jx_getr2 (pc := 21) rfl hP.1 (jrm_10_17 hP.1) ?_
  refine jx_callv (pc := 24) (o := (p + 9)) (rest := []) rfl ⟨by decide, by decide⟩ rfl (jkm_10_18 hP.1) (Nat.le_of_ble_eq_true rfl) ?_
  obtain ⟨z2, hz_z2, K⟩ := Option.bind_eq_some_iff.mp K
  refine kFo_valueFor hP (jkm_10_18 hP.1) jko_82 (jkm_10_17 hP.1) (by omega) hz_z2 ?_
  refine jx_stin (pc := 27) (p2 := [some (.ref 79), some (.int v1), some (.int v2), some (.int z2.1)]) rfl (jlt rfl) rfl ?_
  refine jx_next (pc := 28) (pc' := 29) rfl rfl ?_
  refine jx_next (pc := 29) (pc' := 32) rfl rfl ?_
  refine jx_next (pc := 32) (pc' := 33) rfl rfl ?_
  refine jx_calls (pc := 33) rfl (Nat.le_of_ble_eq_true rfl) (Nat.le_of_ble_eq_true rfl) ?_
  refine kMt_min  (by omega) rfl ?_
  refine jx_calls (pc := 36) rfl (Nat.le_of_ble_eq_true rfl) (Nat.le_of_ble_eq_true rfl) ?_
  refine kMt_max  (by omega) rfl ?_
  obtain rfl := Option.some.inj K
  exact jx_iret (pc := 39) rfl HQ
noncomputable def fPy_weighCards_l2_j82 (p : Nat) (v1 : Int32) (s0 : Nat) (s1 : Int32) (s2 : Int32) (h : jH) : Option ((Int32 × jH) ⊕ (jH)) :=
  (if jin s1 (jsh s0).2 then
  some (.inl (v1 + 1, jhI h s0 s1.toNatClampNeg s2))
  else none)
theorem kPy_weighCards_l2_j82 {X : jX} {dd : Nat} {p d : Nat} {q : Nat → Nat} {Q : Option Value → jS → Prop} {v1 : Int32} {s0 : Nat} {s1 : Int32} {s2 : Int32} {h : jH} (hP : jOK p d q) (hs0 : jcl 176 s0 = 20) (hd : 5 ≤ (dd + 1)) {z : (Int32 × jH) ⊕ (jH)} (K : fPy_weighCards_l2_j82 p v1 s0 s1 s2 h = some z) (HL : ∀ s : Int32 × jH, z = .inl s → jEx X (dd + 1) jc_86 2 [some (.ref 79), some (.int s.1), none] [] (176, jRf p d q, s.2) Q) (HE0 : ∀ x : jH, z = .inr x → jEx X (dd + 1) jc_86 89 [none, none, none] [] (176, jRf p d q, x) Q) :
    jEx X (dd + 1) jc_86 82 [some (.ref 79), some (.int v1), none] [.int s2, .int s1, .ref s0] (176, jRf p d q, h) Q := by
  unfold fPy_weighCards_l2_j82 at K
  obtain ⟨hg10, K⟩ := jguard K
  refine jx_iast2 (pc := 82) rfl hs0 rfl hg10 ?_
  refine jx_inc (pc := 83) (x := v1) (p2 := [some (.ref 79), some (.int (v1 + 1)), none]) rfl rfl (jlt rfl) rfl ?_
  refine jx_next (pc := 86) (pc' := 2) rfl rfl ?_
  obtain rfl := Option.some.inj K
  refine jx_le (pl' := [some (.ref 79), some (.int (v1 + 1)), none]) (jle_v (jle_v (jle_n jle_nil))) ?_
  exact HL (v1 + 1, jhI h s0 s1.toNatClampNeg s2) rfl
noncomputable def fPy_weighCards_l2_j81 (p : Nat) (v1 : Int32) (s0 : Nat) (s1 : Int32) (h : jH) : Option ((Int32 × jH) ⊕ (jH)) :=
  fPy_weighCards_l2_j82  p v1 s0 s1 0 h
theorem kPy_weighCards_l2_j81 {X : jX} {dd : Nat} {p d : Nat} {q : Nat → Nat} {Q : Option Value → jS → Prop} {v1 : Int32} {s0 : Nat} {s1 : Int32} {h : jH} (hP : jOK p d q) (hs0 : jcl 176 s0 = 20) (hd : 5 ≤ (dd + 1)) {z : (Int32 × jH) ⊕ (jH)} (K : fPy_weighCards_l2_j81 p v1 s0 s1 h = some z) (HL : ∀ s : Int32 × jH, z = .inl s → jEx X (dd + 1) jc_86 2 [some (.ref 79), some (.int s.1), none] [] (176, jRf p d q, s.2) Q) (HE0 : ∀ x : jH, z = .inr x → jEx X (dd + 1) jc_86 89 [none, none, none] [] (176, jRf p d q, x) Q) :
    jEx X (dd + 1) jc_86 81 [some (.ref 79), some (.int v1), none] [.int s1, .ref s0] (176, jRf p d q, h) Q := by
  unfold fPy_weighCards_l2_j81 at K
  refine jx_next (pc := 81) (pc' := 82) rfl rfl ?_
  refine jx_le (pl' := [some (.ref 79), some (.int v1), none]) (jle_v (jle_v (jle_n jle_nil))) ?_
  exact kPy_weighCards_l2_j82 hP hs0 hd K HL HE0
noncomputable def fPy_weighCards_l2_j49 (p : Nat) (v1 : Int32) (s0 : Int32) (h : jH) : Option ((Int32 × jH) ⊕ (jH)) :=
  (if 0 < s0 then
  (if (fFo_isEmpty (p + 9) h) = 0 then
  (Option.bind (fPy_lateOffence p v1 s0 h) (fun (z9 : Int32 × jH) =>
  fPy_weighCards_l2_j82  p v1 83 v1 z9.1 z9.2))
  else
  fPy_weighCards_l2_j81  p v1 83 v1 h)
  else
  fPy_weighCards_l2_j81  p v1 83 v1 h)
theorem kPy_weighCards_l2_j49 {X : jX} {dd : Nat} {p d : Nat} {q : Nat → Nat} {Q : Option Value → jS → Prop} {v1 : Int32} {s0 : Int32} {h : jH} (hP : jOK p d q)  (hd : 5 ≤ (dd + 1)) {z : (Int32 × jH) ⊕ (jH)} (K : fPy_weighCards_l2_j49 p v1 s0 h = some z) (HL : ∀ s : Int32 × jH, z = .inl s → jEx X (dd + 1) jc_86 2 [some (.ref 79), some (.int s.1), none] [] (176, jRf p d q, s.2) Q) (HE0 : ∀ x : jH, z = .inr x → jEx X (dd + 1) jc_86 89 [none, none, none] [] (176, jRf p d q, x) Q) :
    jEx X (dd + 1) jc_86 49 [some (.ref 79), some (.int v1), none] [.int s0] (176, jRf p d q, h) Q := by
  unfold fPy_weighCards_l2_j49 at K
  refine jx_stin (pc := 49) (p2 := [some (.ref 79), some (.int v1), some (.int s0)]) rfl (jlt rfl) rfl ?_
  refine jx_next (pc := 50) (pc' := 51) rfl rfl ?_
  refine jx_getr2 (pc := 51) rfl jko_79 jr_8_3 ?_
  refine jx_next (pc := 54) (pc' := 55) rfl rfl ?_
  refine jx_next (pc := 55) (pc' := 56) rfl rfl ?_
  refine jx_ifle (pc := 56) rfl (fun hc6 => ?_) (fun hc6 => ?_)
  · replace K := (if_pos hc6).symm.trans K
    refine jx_next (pc := 59) (pc' := 60) rfl rfl ?_
    refine jx_getr2 (pc := 60) rfl jko_79 jr_8_4 ?_
    refine jx_getr2 (pc := 63) rfl hP.1 (jrm_10_18 hP.1) ?_
    refine jx_callv (pc := 66) (o := (p + 9)) (rest := [.int v1, .ref 83]) rfl ⟨by decide, by decide⟩ rfl (jkm_10_18 hP.1) (Nat.le_of_ble_eq_true rfl) ?_
    refine kFo_isEmpty hP (jkm_10_18 hP.1) (by omega) rfl ?_
    refine jx_ifne (pc := 69) rfl (fun hc8 => ?_) (fun hc8 => ?_)
    · replace K := (if_pos hc8).symm.trans K
      refine jx_next (pc := 72) (pc' := 73) rfl rfl ?_
      refine jx_next (pc := 73) (pc' := 74) rfl rfl ?_
      refine jx_next (pc := 74) (pc' := 75) rfl rfl ?_
      refine jx_callv (pc := 75) (o := 79) (rest := [.int v1, .ref 83]) rfl ⟨by decide, by decide⟩ rfl jko_79 (Nat.le_of_ble_eq_true rfl) ?_
      obtain ⟨z9, hz_z9, K⟩ := Option.bind_eq_some_iff.mp K
      refine kPy_lateOffence hP (by omega) hz_z9 ?_
      refine jx_next (pc := 78) (pc' := 82) rfl rfl ?_
      refine jx_le (pl' := [some (.ref 79), some (.int v1), none]) (jle_v (jle_v (jle_n jle_nil))) ?_
      exact kPy_weighCards_l2_j82 hP jko_83 hd K HL HE0
    · replace K := (if_neg hc8).symm.trans K
      refine jx_le (pl' := [some (.ref 79), some (.int v1), none]) (jle_v (jle_v (jle_n jle_nil))) ?_
      exact kPy_weighCards_l2_j81 hP jko_83 hd K HL HE0
  · replace K := (if_neg hc6).symm.trans K
    refine jx_le (pl' := [some (.ref 79), some (.int v1), none]) (jle_v (jle_v (jle_n jle_nil))) ?_
    exact kPy_weighCards_l2_j81 hP jko_83 hd K HL HE0
noncomputable def fPy_weighCards_l2_b (p : Nat) (v1 : Int32) (h : jH) : Option ((Int32 × jH) ⊕ (jH)) :=
  (if v1 < (h.1 p 0) then
  (if v1 < 8 then
  (Option.bind (fSd_isAsked 11 v1 h) (fun (z3 : Int32) =>
  (if z3 = 0 then
  fPy_weighCards_l2_j49  p v1 (fSd_behindNow 11 h) h
  else
  (if jin v1 8 then
  fPy_weighCards_l2_j49  p v1 (h.1 (11 + 2) v1.toNatClampNeg) h
  else none))))
  else
  some (.inr h))
  else
  some (.inr h))
noncomputable def fPy_weighCards_l2 (p : Nat)  : (Int32 × jH) → Option ((Int32 × jH) ⊕ (jH)) :=
  fun (s : Int32 × jH) => fPy_weighCards_l2_b p s.1 s.2
theorem kPy_weighCards_l2_b {X : jX} {dd : Nat} {p d : Nat} {q : Nat → Nat} {Q : Option Value → jS → Prop} {v1 : Int32} {h : jH} (hP : jOK p d q)  (hd : 5 ≤ (dd + 1)) {z : (Int32 × jH) ⊕ (jH)} (K : fPy_weighCards_l2_b p v1 h = some z) (HL : ∀ s : Int32 × jH, z = .inl s → jEx X (dd + 1) jc_86 2 [some (.ref 79), some (.int s.1), none] [] (176, jRf p d q, s.2) Q) (HE0 : ∀ x : jH, z = .inr x → jEx X (dd + 1) jc_86 89 [none, none, none] [] (176, jRf p d q, x) Q) :
    jEx X (dd + 1) jc_86 2 [some (.ref 79), some (.int v1), none] [] (176, jRf p d q, h) Q := by
  unfold fPy_weighCards_l2_b at K
  refine jx_next (pc := 2) (pc' := 3) rfl rfl ?_
  refine jx_next (pc := 3) (pc' := 4) rfl rfl ?_
  refine jx_getr2 (pc := 4) rfl jko_79 jr_8_4 ?_
  refine jx_geti (pc := 7) rfl hP.1 ?_
  refine jx_icge (pc := 10) rfl (fun hc1 => ?_) (fun hc1 => ?_)
  · replace K := (if_pos hc1).symm.trans K
    refine jx_next (pc := 13) (pc' := 14) rfl rfl ?_
    refine jx_next (pc := 14) (pc' := 16) rfl rfl ?_
    refine jx_icge (pc := 16) rfl (fun hc2 => ?_) (fun hc2 => ?_)
    · replace K := (if_pos hc2).symm.trans K
      refine jx_next (pc := 19) (pc' := 20) rfl rfl ?_
      refine jx_getr2 (pc := 20) rfl jko_79 jr_8_0 ?_
      refine jx_next (pc := 23) (pc' := 24) rfl rfl ?_
      refine jx_callv (pc := 24) (o := 11) (rest := []) rfl ⟨by decide, by decide⟩ rfl jko_11 (Nat.le_of_ble_eq_true rfl) ?_
      obtain ⟨z3, hz_z3, K⟩ := Option.bind_eq_some_iff.mp K
      refine kSd_isAsked hP jko_11 (by omega) hz_z3 ?_
      refine jx_ifeq (pc := 27) rfl (fun hc4 => ?_) (fun hc4 => ?_)
      · replace K := (if_pos hc4).symm.trans K
        refine jx_next (pc := 42) (pc' := 43) rfl rfl ?_
        refine jx_getr2 (pc := 43) rfl jko_79 jr_8_0 ?_
        refine jx_callv (pc := 46) (o := 11) (rest := []) rfl ⟨by decide, by decide⟩ rfl jko_11 (Nat.le_of_ble_eq_true rfl) ?_
        refine kSd_behindNow hP jko_11 (by omega) rfl ?_
        refine jx_le (pl' := [some (.ref 79), some (.int v1), none]) (jle_v (jle_v (jle_n jle_nil))) ?_
        exact kPy_weighCards_l2_j49 hP  hd K HL HE0
      · replace K := (if_neg hc4).symm.trans K
        refine jx_next (pc := 30) (pc' := 31) rfl rfl ?_
        refine jx_getr2 (pc := 31) rfl jko_79 jr_8_0 ?_
        refine jx_getr2 (pc := 34) rfl jko_11 (jrm_6_3 jko_11) ?_
        refine jx_next (pc := 37) (pc' := 38) rfl rfl ?_
        obtain ⟨hg11, K⟩ := jguard K
        refine jx_iald2 (pc := 38) rfl (jkm_6_3 jko_11) (jnm_6_3 jko_11) hg11 ?_
        refine jx_next (pc := 39) (pc' := 49) rfl rfl ?_
        refine jx_le (pl' := [some (.ref 79), some (.int v1), none]) (jle_v (jle_v (jle_n jle_nil))) ?_
        exact kPy_weighCards_l2_j49 hP  hd K HL HE0
    · replace K := (if_neg hc2).symm.trans K
      obtain rfl := Option.some.inj K
      refine jx_le (pl' := [none, none, none]) (jle_n (jle_n (jle_n jle_nil))) ?_
      exact HE0 _ rfl
  · replace K := (if_neg hc1).symm.trans K
    obtain rfl := Option.some.inj K
    refine jx_le (pl' := [none, none, none]) (jle_n (jle_n (jle_n jle_nil))) ?_
    exact HE0 _ rfl
theorem kPy_weighCards_l2_w {X : jX} {dd : Nat} {p d : Nat} {q : Nat → Nat} {Q : Option Value → jS → Prop}  (hP : jOK p d q)  (hd : 5 ≤ (dd + 1)) {s : Int32 × jH} {x : jH} (K : jlim (fPy_weighCards_l2 p ) s = some x) (HE : jEx X (dd + 1) jc_86 89 [none, none, none] [] (176, jRf p d q, x) Q) :
    jEx X (dd + 1) jc_86 2 [some (.ref 79), some (.int s.1), none] [] (176, jRf p d q, s.2) Q := by
  refine jlim_ok (G := fun s : Int32 × jH => jEx X (dd + 1) jc_86 2 [some (.ref 79), some (.int s.1), none] [] (176, jRf p d q, s.2) Q) (GX := fun x : jH => jEx X (dd + 1) jc_86 89 [none, none, none] [] (176, jRf p d q, x) Q) (fun s z hz HL HE => ?_) K HE
  exact kPy_weighCards_l2_b hP  hd hz HL HE
/-- AndGuest$Party.weighCards()V -/
noncomputable def fPy_weighCards (p : Nat)  (h : jH) : Option jH :=
  (Option.bind (jlim (fPy_weighCards_l2  p) (0, h)) (fun (x12 : jH) =>
  some x12))
theorem kPy_weighCards {X : jX} {dd : Nat} {p d : Nat} {q : Nat → Nat} {Q : Option Value → jS → Prop}  {h : jH} (hP : jOK p d q)  (hd : 5 ≤ dd) {z : jH} (K : fPy_weighCards p  h = some z) (HQ : Q none (176, jRf p d q, z)) :
    jCa X dd 86 [.ref 79] (176, jRf p d q, h) Q := by
  obtain ⟨dd, rfl⟩ : ∃ d9, dd = d9 + 1 := ⟨dd - 1, by omega⟩
  unfold fPy_weighCards at K
  refine jCa_of (es := jc_86) (pl := [some (.ref 79), none, none]) (M := jm_86) rfl rfl rfl rfl ?_
  refine jx_next (pc := 0) (pc' := 1) rfl rfl ?_
  refine jx_stin (pc := 1) (p2 := [some (.ref 79), some (.int 0), none]) rfl (jlt rfl) rfl ?_
  refine jx_le (pl' := [some (.ref 79), some (.int 0), none]) (jle_v (jle_v (jle_n jle_nil))) ?_
  obtain ⟨x12, hz_x12, K⟩ := Option.bind_eq_some_iff.mp K
  refine kPy_weighCards_l2_w hP  hd hz_x12 ?_
  obtain rfl := Option.some.inj K
  exact jx_ret (pc := 89) rfl rfl HQ
noncomputable def fPn_slightIfAsked_j15 (o : Nat) (v1 : Int32) (v2 : Int32) (s0 : Int32) (h : jH) : Option Int32 :=
  (if s0 = 0 then
  some (0 : Int32)
  else
  (if jin v1 8 then
  (if ((h.1 (o + 7) v1.toNatClampNeg) &&& v2) = 0 then
  some (0 : Int32)
  else
  (if jin v1 8 then
  some (h.1 (o + 5) v1.toNatClampNeg : Int32)
  else none))
  else none))
theorem kPn_slightIfAsked_j15 {X : jX} {dd : Nat} {p d : Nat} {q : Nat → Nat} {Q : Option Value → jS → Prop} {o : Nat} {v1 : Int32} {v2 : Int32} {s0 : Int32} {h : jH} (hP : jOK p d q) (ho : jcl 176 o = 10) (hd : 0 ≤ dd) {z : Int32} (K : fPn_slightIfAsked_j15 o v1 v2 s0 h = some z) (HQ : Q (some (.int z)) (176, jRf p d q, h)) :
    jEx X dd jc_99 15 [some (.ref o), some (.int v1), some (.int v2), none] [.int s0] (176, jRf p d q, h) Q := by
  unfold fPn_slightIfAsked_j15 at K
  refine jx_stin (pc := 15) (p2 := [some (.ref o), some (.int v1), some (.int v2), some (.int s0)]) rfl (jlt rfl) rfl ?_
  refine jx_next (pc := 16) (pc' := 17) rfl rfl ?_
  refine jx_ifeq (pc := 17) rfl (fun hc2 => ?_) (fun hc2 => ?_)
  · replace K := (if_pos hc2).symm.trans K
    refine jx_next (pc := 40) (pc' := 41) rfl rfl ?_
    obtain rfl := Option.some.inj K
    exact jx_iret (pc := 41) rfl HQ
  · replace K := (if_neg hc2).symm.trans K
    refine jx_next (pc := 20) (pc' := 21) rfl rfl ?_
    refine jx_getr2 (pc := 21) rfl ho (jrm_10_16 ho) ?_
    refine jx_next (pc := 24) (pc' := 25) rfl rfl ?_
    obtain ⟨hg3, K⟩ := jguard K
    refine jx_iald2 (pc := 25) rfl (jkm_10_16 ho) (jnm_10_16 ho) hg3 ?_
    refine jx_next (pc := 26) (pc' := 27) rfl rfl ?_
    refine jx_next (pc := 27) (pc' := 28) rfl rfl ?_
    refine jx_ifeq (pc := 28) rfl (fun hc4 => ?_) (fun hc4 => ?_)
    · replace K := (if_pos hc4).symm.trans K
      refine jx_next (pc := 40) (pc' := 41) rfl rfl ?_
      obtain rfl := Option.some.inj K
      exact jx_iret (pc := 41) rfl HQ
    · replace K := (if_neg hc4).symm.trans K
      refine jx_next (pc := 31) (pc' := 32) rfl rfl ?_
      refine jx_getr2 (pc := 32) rfl ho (jrm_10_14 ho) ?_
      refine jx_next (pc := 35) (pc' := 36) rfl rfl ?_
      obtain ⟨hg5, K⟩ := jguard K
      refine jx_iald2 (pc := 36) rfl (jkm_10_14 ho) (jnm_10_14 ho) hg5 ?_
      refine jx_next (pc := 37) (pc' := 41) rfl rfl ?_
      obtain rfl := Option.some.inj K
      exact jx_iret (pc := 41) rfl HQ
noncomputable def fPn_slightIfAsked_j14 (o : Nat) (v1 : Int32) (v2 : Int32) (h : jH) : Option Int32 :=
  fPn_slightIfAsked_j15  o v1 v2 0 h
theorem kPn_slightIfAsked_j14 {X : jX} {dd : Nat} {p d : Nat} {q : Nat → Nat} {Q : Option Value → jS → Prop} {o : Nat} {v1 : Int32} {v2 : Int32} {h : jH} (hP : jOK p d q) (ho : jcl 176 o = 10) (hd : 0 ≤ dd) {z : Int32} (K : fPn_slightIfAsked_j14 o v1 v2 h = some z) (HQ : Q (some (.int z)) (176, jRf p d q, h)) :
    jEx X dd jc_99 14 [some (.ref o), some (.int v1), some (.int v2), none] [] (176, jRf p d q, h) Q := by
  unfold fPn_slightIfAsked_j14 at K
  refine jx_next (pc := 14) (pc' := 15) rfl rfl ?_
  refine jx_le (pl' := [some (.ref o), some (.int v1), some (.int v2), none]) (jle_v (jle_v (jle_v (jle_n jle_nil)))) ?_
  exact kPn_slightIfAsked_j15 hP ho hd K HQ
/-- AndGuest$Plan.slightIfAsked(II)I -/
noncomputable def fPn_slightIfAsked (o : Nat) (v1 : Int32) (v2 : Int32) (h : jH) : Option Int32 :=
  (if v1 < 0 then
  fPn_slightIfAsked_j14  o v1 v2 h
  else
  (if v1 < 8 then
  fPn_slightIfAsked_j15  o v1 v2 1 h
  else
  fPn_slightIfAsked_j14  o v1 v2 h))
theorem kPn_slightIfAsked {X : jX} {dd : Nat} {p d : Nat} {q : Nat → Nat} {Q : Option Value → jS → Prop} {o : Nat} {v1 : Int32} {v2 : Int32} {h : jH} (hP : jOK p d q) (ho : jcl 176 o = 10) (hd : 0 ≤ dd) {z : Int32} (K : fPn_slightIfAsked o v1 v2 h = some z) (HQ : Q (some (.int z)) (176, jRf p d q, h)) :
    jCa X dd 99 [.ref o, .int v1, .int v2] (176, jRf p d q, h) Q := by
  unfold fPn_slightIfAsked at K
  refine jCa_of (es := jc_99) (pl := [some (.ref o), some (.int v1), some (.int v2), none]) (M := jm_99) rfl rfl rfl rfl ?_
  refine jx_next (pc := 0) (pc' := 1) rfl rfl ?_
  refine jx_iflt (pc := 1) rfl (fun hc1 => ?_) (fun hc1 => ?_)
  · replace K := (if_pos hc1).symm.trans K
    refine jx_le (pl' := [some (.ref o), some (.int v1), some (.int v2), none]) (jle_v (jle_v (jle_v (jle_n jle_nil)))) ?_
    exact kPn_slightIfAsked_j14 hP ho hd K HQ
  · replace K := (if_neg hc1).symm.trans K
    refine jx_next (pc := 4) (pc' := 5) rfl rfl ?_
    refine jx_next (pc := 5) (pc' := 7) rfl rfl ?_
    refine jx_icge (pc := 7) rfl (fun hc6 => ?_) (fun hc6 => ?_)
    · replace K := (if_pos hc6).symm.trans K
      refine jx_next (pc := 10) (pc' := 11) rfl rfl ?_
      refine jx_next (pc := 11) (pc' := 15) rfl rfl ?_
      refine jx_le (pl' := [some (.ref o), some (.int v1), some (.int v2), none]) (jle_v (jle_v (jle_v (jle_n jle_nil)))) ?_
      exact kPn_slightIfAsked_j15 hP ho hd K HQ
    · replace K := (if_neg hc6).symm.trans K
      refine jx_le (pl' := [some (.ref o), some (.int v1), some (.int v2), none]) (jle_v (jle_v (jle_v (jle_n jle_nil)))) ?_
      exact kPn_slightIfAsked_j14 hP ho hd K HQ
noncomputable def fPy_offenceOf_j26 (p : Nat) (v1 : Int32) (v2 : Int32) (s0 : Int32) (h : jH) : Option Int32 :=
  (if s0 = 0 then
  (Option.bind (fPn_slightIfAsked p v1 v2 h) (fun (z5 : Int32) =>
  some (z5 : Int32)))
  else
  (if jin v1 8 then
  some (h.1 83 v1.toNatClampNeg : Int32)
  else none))
theorem kPy_offenceOf_j26 {X : jX} {dd : Nat} {p d : Nat} {q : Nat → Nat} {Q : Option Value → jS → Prop} {v1 : Int32} {v2 : Int32} {s0 : Int32} {h : jH} (hP : jOK p d q)  (hd : 1 ≤ (dd + 1)) {z : Int32} (K : fPy_offenceOf_j26 p v1 v2 s0 h = some z) (HQ : Q (some (.int z)) (176, jRf p d q, h)) :
    jEx X (dd + 1) jc_98 26 [some (.ref 79), some (.int v1), some (.int v2), none] [.int s0] (176, jRf p d q, h) Q := by
  unfold fPy_offenceOf_j26 at K
  refine jx_stin (pc := 26) (p2 := [some (.ref 79), some (.int v1), some (.int v2), some (.int s0)]) rfl (jlt rfl) rfl ?_
  refine jx_next (pc := 27) (pc' := 28) rfl rfl ?_
  refine jx_ifeq (pc := 28) rfl (fun hc4 => ?_) (fun hc4 => ?_)
  · replace K := (if_pos hc4).symm.trans K
    refine jx_next (pc := 40) (pc' := 41) rfl rfl ?_
    refine jx_getr2 (pc := 41) rfl jko_79 jr_8_4 ?_
    refine jx_next (pc := 44) (pc' := 45) rfl rfl ?_
    refine jx_next (pc := 45) (pc' := 46) rfl rfl ?_
    refine jx_callv (pc := 46) (o := p) (rest := []) rfl ⟨by decide, by decide⟩ rfl hP.1 (Nat.le_of_ble_eq_true rfl) ?_
    obtain ⟨z5, hz_z5, K⟩ := Option.bind_eq_some_iff.mp K
    refine kPn_slightIfAsked hP hP.1 (by omega) hz_z5 ?_
    obtain rfl := Option.some.inj K
    exact jx_iret (pc := 49) rfl HQ
  · replace K := (if_neg hc4).symm.trans K
    refine jx_next (pc := 31) (pc' := 32) rfl rfl ?_
    refine jx_getr2 (pc := 32) rfl jko_79 jr_8_3 ?_
    refine jx_next (pc := 35) (pc' := 36) rfl rfl ?_
    obtain ⟨hg6, K⟩ := jguard K
    refine jx_iald2 (pc := 36) rfl jko_83 jno_83 hg6 ?_
    refine jx_next (pc := 37) (pc' := 49) rfl rfl ?_
    obtain rfl := Option.some.inj K
    exact jx_iret (pc := 49) rfl HQ
/-- AndGuest$Party.offenceOf(II)I -/
noncomputable def fPy_offenceOf (p : Nat) (v1 : Int32) (v2 : Int32) (h : jH) : Option Int32 :=
  (if v1 < 0 then
  some (0 : Int32)
  else
  (if v1 < 8 then
  (if ((v2 >>> (v1 &&& 31)) &&& 1) = 1 then
  fPy_offenceOf_j26  p v1 v2 1 h
  else
  fPy_offenceOf_j26  p v1 v2 0 h)
  else
  some (0 : Int32)))
theorem kPy_offenceOf {X : jX} {dd : Nat} {p d : Nat} {q : Nat → Nat} {Q : Option Value → jS → Prop} {v1 : Int32} {v2 : Int32} {h : jH} (hP : jOK p d q)  (hd : 1 ≤ dd) {z : Int32} (K : fPy_offenceOf p v1 v2 h = some z) (HQ : Q (some (.int z)) (176, jRf p d q, h)) :
    jCa X dd 98 [.ref 79, .int v1, .int v2] (176, jRf p d q, h) Q := by
  obtain ⟨dd, rfl⟩ : ∃ d9, dd = d9 + 1 := ⟨dd - 1, by omega⟩
  unfold fPy_offenceOf at K
  refine jCa_of (es := jc_98) (pl := [some (.ref 79), some (.int v1), some (.int v2), none]) (M := jm_98) rfl rfl rfl rfl ?_
  refine jx_next (pc := 0) (pc' := 1) rfl rfl ?_
  refine jx_iflt (pc := 1) rfl (fun hc1 => ?_) (fun hc1 => ?_)
  · replace K := (if_pos hc1).symm.trans K
    refine jx_next (pc := 10) (pc' := 11) rfl rfl ?_
    obtain rfl := Option.some.inj K
    exact jx_iret (pc := 11) rfl HQ
  · replace K := (if_neg hc1).symm.trans K
    refine jx_next (pc := 4) (pc' := 5) rfl rfl ?_
    refine jx_next (pc := 5) (pc' := 7) rfl rfl ?_
    refine jx_iclt (pc := 7) rfl (fun hc2 => ?_) (fun hc2 => ?_)
    · replace K := (if_pos hc2).symm.trans K
      refine jx_next (pc := 12) (pc' := 13) rfl rfl ?_
      refine jx_next (pc := 13) (pc' := 14) rfl rfl ?_
      refine jx_next (pc := 14) (pc' := 15) rfl rfl ?_
      refine jx_next (pc := 15) (pc' := 16) rfl rfl ?_
      refine jx_next (pc := 16) (pc' := 17) rfl rfl ?_
      refine jx_next (pc := 17) (pc' := 18) rfl rfl ?_
      refine jx_icne (pc := 18) rfl (fun hc3 => ?_) (fun hc3 => ?_)
      · replace K := (if_pos hc3).symm.trans K
        refine jx_next (pc := 21) (pc' := 22) rfl rfl ?_
        refine jx_next (pc := 22) (pc' := 26) rfl rfl ?_
        refine jx_le (pl' := [some (.ref 79), some (.int v1), some (.int v2), none]) (jle_v (jle_v (jle_v (jle_n jle_nil)))) ?_
        exact kPy_offenceOf_j26 hP  hd K HQ
      · replace K := (if_neg hc3).symm.trans K
        refine jx_next (pc := 25) (pc' := 26) rfl rfl ?_
        refine jx_le (pl' := [some (.ref 79), some (.int v1), some (.int v2), none]) (jle_v (jle_v (jle_v (jle_n jle_nil)))) ?_
        exact kPy_offenceOf_j26 hP  hd K HQ
    · replace K := (if_neg hc2).symm.trans K
      refine jx_next (pc := 10) (pc' := 11) rfl rfl ?_
      obtain rfl := Option.some.inj K
      exact jx_iret (pc := 11) rfl HQ
/-- AndGuest$Party.offenceNow(I)I -/
noncomputable def fPy_offenceNow (p : Nat) (v1 : Int32) (h : jH) : Option (Int32 × jH) :=
  (Option.bind (fPy_weighCards p h) (fun (z1 : jH) =>
  (Option.bind (fSd_askedSet 11 z1) (fun (z2 : Int32) =>
  (Option.bind (fPy_offenceOf p v1 z2 z1) (fun (z3 : Int32) =>
  some (z3, z1)))))))
theorem kPy_offenceNow {X : jX} {dd : Nat} {p d : Nat} {q : Nat → Nat} {Q : Option Value → jS → Prop} {v1 : Int32} {h : jH} (hP : jOK p d q)  (hd : 6 ≤ dd) {z : Int32 × jH} (K : fPy_offenceNow p v1 h = some z) (HQ : Q (some (.int z.1)) (176, jRf p d q, z.2)) :
    jCa X dd 85 [.ref 79, .int v1] (176, jRf p d q, h) Q := by
  obtain ⟨dd, rfl⟩ : ∃ d9, dd = d9 + 1 := ⟨dd - 1, by omega⟩
  unfold fPy_offenceNow at K
  refine jCa_of (es := jc_85) (pl := [some (.ref 79), some (.int v1)]) (M := jm_85) rfl rfl rfl rfl ?_
  refine jx_next (pc := 0) (pc' := 1) rfl rfl ?_
  refine jx_callv (pc := 1) (o := 79) (rest := []) rfl ⟨by decide, by decide⟩ rfl jko_79 (Nat.le_of_ble_eq_true rfl) ?_
  obtain ⟨z1, hz_z1, K⟩ := Option.bind_eq_some_iff.mp K
  refine kPy_weighCards hP (by omega) hz_z1 ?_
  refine jx_next (pc := 4) (pc' := 5) rfl rfl ?_
  refine jx_next (pc := 5) (pc' := 6) rfl rfl ?_
  refine jx_next (pc := 6) (pc' := 7) rfl rfl ?_
  refine jx_getr2 (pc := 7) rfl jko_79 jr_8_0 ?_
  refine jx_callv (pc := 10) (o := 11) (rest := [.int v1, .ref 79]) rfl ⟨by decide, by decide⟩ rfl jko_11 (Nat.le_of_ble_eq_true rfl) ?_
  obtain ⟨z2, hz_z2, K⟩ := Option.bind_eq_some_iff.mp K
  refine kSd_askedSet hP jko_11 (by omega) hz_z2 ?_
  refine jx_callv (pc := 13) (o := 79) (rest := []) rfl ⟨by decide, by decide⟩ rfl jko_79 (Nat.le_of_ble_eq_true rfl) ?_
  obtain ⟨z3, hz_z3, K⟩ := Option.bind_eq_some_iff.mp K
  refine kPy_offenceOf hP (by omega) hz_z3 ?_
  obtain rfl := Option.some.inj K
  exact jx_iret (pc := 16) rfl HQ
/-- AndGuest.guest(II)I -/
noncomputable def fA_guest (p : Nat) (v1 : Int32) (v2 : Int32) (h : jH) : Option (Int32 × jH) :=
  (if (fA_isGuest p v1 h) = 0 then
  some ((-1), h)
  else
  (if v2 = 0 then
  (if jin v1 8 then
  some (h.1 (p + 2) v1.toNatClampNeg, h)
  else none)
  else
  (if v2 = 1 then
  (if jin v1 8 then
  some (h.1 (p + 3) v1.toNatClampNeg, h)
  else none)
  else
  (if v2 = 2 then
  (if jin v1 8 then
  some (h.1 (p + 4) v1.toNatClampNeg, h)
  else none)
  else
  (if v2 = 3 then
  (if jin v1 8 then
  some (h.1 (p + 5) v1.toNatClampNeg, h)
  else none)
  else
  (if v2 = 4 then
  (if jin v1 8 then
  some (h.1 (11 + 1) v1.toNatClampNeg, h)
  else none)
  else
  (if v2 = 5 then
  (Option.bind (fPy_comesNow p v1 h) (fun (z9 : Int32) =>
  some (z9, h)))
  else
  (if v2 = 6 then
  (Option.bind (fPy_offenceNow p v1 h) (fun (z10 : Int32 × jH) =>
  some (z10.1, z10.2)))
  else
  (if v2 = 7 then
  (Option.bind (fSd_isAsked 11 v1 h) (fun (z11 : Int32) =>
  (if z11 = 0 then
  some ((-1), h)
  else
  (if jin v1 8 then
  some (h.1 (11 + 2) v1.toNatClampNeg, h)
  else none))))
  else
  some ((-1), h))))))))))
theorem kA_guest {X : jX} {dd : Nat} {p d : Nat} {q : Nat → Nat} {Q : Option Value → jS → Prop} {v1 : Int32} {v2 : Int32} {h : jH} (hP : jOK p d q)  (hd : 7 ≤ dd) {z : Int32 × jH} (K : fA_guest p v1 v2 h = some z) (HQ : Q (some (.int z.1)) (176, jRf p d q, z.2)) :
    jCa X dd 83 [.ref 1, .int v1, .int v2] (176, jRf p d q, h) Q := by
  obtain ⟨dd, rfl⟩ : ∃ d9, dd = d9 + 1 := ⟨dd - 1, by omega⟩
  unfold fA_guest at K
  refine jCa_of (es := jc_83) (pl := [some (.ref 1), some (.int v1), some (.int v2), none]) (M := jm_83) rfl rfl rfl rfl ?_
  refine jx_next (pc := 0) (pc' := 1) rfl rfl ?_
  refine jx_next (pc := 1) (pc' := 2) rfl rfl ?_
  refine jx_callv (pc := 2) (o := 1) (rest := []) rfl ⟨by decide, by decide⟩ rfl jko_1 (Nat.le_of_ble_eq_true rfl) ?_
  refine kA_isGuest hP (by omega) rfl ?_
  refine jx_ifne (pc := 5) rfl (fun hc2 => ?_) (fun hc2 => ?_)
  · replace K := (if_pos hc2).symm.trans K
    refine jx_next (pc := 8) (pc' := 9) rfl rfl ?_
    obtain rfl := Option.some.inj K
    exact jx_iret (pc := 9) rfl HQ
  · replace K := (if_neg hc2).symm.trans K
    refine jx_next (pc := 10) (pc' := 11) rfl rfl ?_
    refine jx_getr2 (pc := 11) rfl jko_1 jr_1_8 ?_
    refine jx_callv (pc := 14) (o := 79) (rest := []) rfl ⟨by decide, by decide⟩ rfl jko_79 (Nat.le_of_ble_eq_true rfl) ?_
    refine kPy_plan hP (by omega) rfl ?_
    refine jx_stan (pc := 17) (p2 := [some (.ref 1), some (.int v1), some (.int v2), some (.ref p)]) rfl (jlt rfl) rfl ?_
    refine jx_next (pc := 18) (pc' := 19) rfl rfl ?_
    refine jx_tsw (pc := 19) rfl ?_
    refine jx_sw1 (fun hc21 => ?_) (fun hc21 => ?_)
    · replace K := (if_pos hc21).symm.trans K
      refine jx_next (pc := 64) (pc' := 65) rfl rfl ?_
      refine jx_getr2 (pc := 65) rfl hP.1 (jrm_10_11 hP.1) ?_
      refine jx_next (pc := 68) (pc' := 69) rfl rfl ?_
      obtain ⟨hg4, K⟩ := jguard K
      refine jx_iald2 (pc := 69) rfl (jkm_10_11 hP.1) (jnm_10_11 hP.1) hg4 ?_
      obtain rfl := Option.some.inj K
      exact jx_iret (pc := 70) rfl HQ
    · replace K := (if_neg hc21).symm.trans K
      refine jx_sw1 (fun hc20 => ?_) (fun hc20 => ?_)
      · replace K := (if_pos hc20).symm.trans K
        refine jx_next (pc := 71) (pc' := 72) rfl rfl ?_
        refine jx_getr2 (pc := 72) rfl hP.1 (jrm_10_12 hP.1) ?_
        refine jx_next (pc := 75) (pc' := 76) rfl rfl ?_
        obtain ⟨hg5, K⟩ := jguard K
        refine jx_iald2 (pc := 76) rfl (jkm_10_12 hP.1) (jnm_10_12 hP.1) hg5 ?_
        obtain rfl := Option.some.inj K
        exact jx_iret (pc := 77) rfl HQ
      · replace K := (if_neg hc20).symm.trans K
        refine jx_sw1 (fun hc19 => ?_) (fun hc19 => ?_)
        · replace K := (if_pos hc19).symm.trans K
          refine jx_next (pc := 78) (pc' := 79) rfl rfl ?_
          refine jx_getr2 (pc := 79) rfl hP.1 (jrm_10_13 hP.1) ?_
          refine jx_next (pc := 82) (pc' := 83) rfl rfl ?_
          obtain ⟨hg6, K⟩ := jguard K
          refine jx_iald2 (pc := 83) rfl (jkm_10_13 hP.1) (jnm_10_13 hP.1) hg6 ?_
          obtain rfl := Option.some.inj K
          exact jx_iret (pc := 84) rfl HQ
        · replace K := (if_neg hc19).symm.trans K
          refine jx_sw1 (fun hc18 => ?_) (fun hc18 => ?_)
          · replace K := (if_pos hc18).symm.trans K
            refine jx_next (pc := 85) (pc' := 86) rfl rfl ?_
            refine jx_getr2 (pc := 86) rfl hP.1 (jrm_10_14 hP.1) ?_
            refine jx_next (pc := 89) (pc' := 90) rfl rfl ?_
            obtain ⟨hg7, K⟩ := jguard K
            refine jx_iald2 (pc := 90) rfl (jkm_10_14 hP.1) (jnm_10_14 hP.1) hg7 ?_
            obtain rfl := Option.some.inj K
            exact jx_iret (pc := 91) rfl HQ
          · replace K := (if_neg hc18).symm.trans K
            refine jx_sw1 (fun hc17 => ?_) (fun hc17 => ?_)
            · replace K := (if_pos hc17).symm.trans K
              refine jx_next (pc := 92) (pc' := 93) rfl rfl ?_
              refine jx_getr2 (pc := 93) rfl jko_1 jr_1_5 ?_
              refine jx_getr2 (pc := 96) rfl jko_11 (jrm_6_2 jko_11) ?_
              refine jx_next (pc := 99) (pc' := 100) rfl rfl ?_
              obtain ⟨hg8, K⟩ := jguard K
              refine jx_iald2 (pc := 100) rfl (jkm_6_2 jko_11) (jnm_6_2 jko_11) hg8 ?_
              obtain rfl := Option.some.inj K
              exact jx_iret (pc := 101) rfl HQ
            · replace K := (if_neg hc17).symm.trans K
              refine jx_sw1 (fun hc16 => ?_) (fun hc16 => ?_)
              · replace K := (if_pos hc16).symm.trans K
                refine jx_next (pc := 102) (pc' := 103) rfl rfl ?_
                refine jx_getr2 (pc := 103) rfl jko_1 jr_1_8 ?_
                refine jx_next (pc := 106) (pc' := 107) rfl rfl ?_
                refine jx_callv (pc := 107) (o := 79) (rest := []) rfl ⟨by decide, by decide⟩ rfl jko_79 (Nat.le_of_ble_eq_true rfl) ?_
                obtain ⟨z9, hz_z9, K⟩ := Option.bind_eq_some_iff.mp K
                refine kPy_comesNow hP (by omega) hz_z9 ?_
                obtain rfl := Option.some.inj K
                exact jx_iret (pc := 110) rfl HQ
              · replace K := (if_neg hc16).symm.trans K
                refine jx_sw1 (fun hc15 => ?_) (fun hc15 => ?_)
                · replace K := (if_pos hc15).symm.trans K
                  refine jx_next (pc := 111) (pc' := 112) rfl rfl ?_
                  refine jx_getr2 (pc := 112) rfl jko_1 jr_1_8 ?_
                  refine jx_next (pc := 115) (pc' := 116) rfl rfl ?_
                  refine jx_callv (pc := 116) (o := 79) (rest := []) rfl ⟨by decide, by decide⟩ rfl jko_79 (Nat.le_of_ble_eq_true rfl) ?_
                  obtain ⟨z10, hz_z10, K⟩ := Option.bind_eq_some_iff.mp K
                  refine kPy_offenceNow hP (by omega) hz_z10 ?_
                  obtain rfl := Option.some.inj K
                  exact jx_iret (pc := 119) rfl HQ
                · replace K := (if_neg hc15).symm.trans K
                  refine jx_sw1 (fun hc14 => ?_) (fun hc14 => ?_)
                  · replace K := (if_pos hc14).symm.trans K
                    refine jx_next (pc := 120) (pc' := 121) rfl rfl ?_
                    refine jx_getr2 (pc := 121) rfl jko_1 jr_1_5 ?_
                    refine jx_next (pc := 124) (pc' := 125) rfl rfl ?_
                    refine jx_callv (pc := 125) (o := 11) (rest := []) rfl ⟨by decide, by decide⟩ rfl jko_11 (Nat.le_of_ble_eq_true rfl) ?_
                    obtain ⟨z11, hz_z11, K⟩ := Option.bind_eq_some_iff.mp K
                    refine kSd_isAsked hP jko_11 (by omega) hz_z11 ?_
                    refine jx_ifeq (pc := 128) rfl (fun hc12 => ?_) (fun hc12 => ?_)
                    · replace K := (if_pos hc12).symm.trans K
                      refine jx_next (pc := 143) (pc' := 144) rfl rfl ?_
                      obtain rfl := Option.some.inj K
                      exact jx_iret (pc := 144) rfl HQ
                    · replace K := (if_neg hc12).symm.trans K
                      refine jx_next (pc := 131) (pc' := 132) rfl rfl ?_
                      refine jx_getr2 (pc := 132) rfl jko_1 jr_1_5 ?_
                      refine jx_getr2 (pc := 135) rfl jko_11 (jrm_6_3 jko_11) ?_
                      refine jx_next (pc := 138) (pc' := 139) rfl rfl ?_
                      obtain ⟨hg13, K⟩ := jguard K
                      refine jx_iald2 (pc := 139) rfl (jkm_6_3 jko_11) (jnm_6_3 jko_11) hg13 ?_
                      refine jx_next (pc := 140) (pc' := 144) rfl rfl ?_
                      obtain rfl := Option.some.inj K
                      exact jx_iret (pc := 144) rfl HQ
                  · replace K := (if_neg hc14).symm.trans K
                    refine jx_sw0 ?_
                    refine jx_next (pc := 145) (pc' := 146) rfl rfl ?_
                    obtain rfl := Option.some.inj K
                    exact jx_iret (pc := 146) rfl HQ
/-- AndGuest.far(I)I -/
noncomputable def fA_far (p : Nat) (v1 : Int32) (h : jH) : Option Int32 :=
  (if (fA_isGuest p v1 h) = 0 then
  some ((-1) : Int32)
  else
  (if jin v1 8 then
  some (h.1 (p + 8) v1.toNatClampNeg : Int32)
  else none))
theorem kA_far {X : jX} {dd : Nat} {p d : Nat} {q : Nat → Nat} {Q : Option Value → jS → Prop} {v1 : Int32} {h : jH} (hP : jOK p d q)  (hd : 2 ≤ dd) {z : Int32} (K : fA_far p v1 h = some z) (HQ : Q (some (.int z)) (176, jRf p d q, h)) :
    jCa X dd 100 [.ref 1, .int v1] (176, jRf p d q, h) Q := by
  obtain ⟨dd, rfl⟩ : ∃ d9, dd = d9 + 1 := ⟨dd - 1, by omega⟩
  unfold fA_far at K
  refine jCa_of (es := jc_100) (pl := [some (.ref 1), some (.int v1)]) (M := jm_100) rfl rfl rfl rfl ?_
  refine jx_next (pc := 0) (pc' := 1) rfl rfl ?_
  refine jx_next (pc := 1) (pc' := 2) rfl rfl ?_
  refine jx_callv (pc := 2) (o := 1) (rest := []) rfl ⟨by decide, by decide⟩ rfl jko_1 (Nat.le_of_ble_eq_true rfl) ?_
  refine kA_isGuest hP (by omega) rfl ?_
  refine jx_ifeq (pc := 5) rfl (fun hc2 => ?_) (fun hc2 => ?_)
  · replace K := (if_pos hc2).symm.trans K
    refine jx_next (pc := 23) (pc' := 24) rfl rfl ?_
    obtain rfl := Option.some.inj K
    exact jx_iret (pc := 24) rfl HQ
  · replace K := (if_neg hc2).symm.trans K
    refine jx_next (pc := 8) (pc' := 9) rfl rfl ?_
    refine jx_getr2 (pc := 9) rfl jko_1 jr_1_8 ?_
    refine jx_callv (pc := 12) (o := 79) (rest := []) rfl ⟨by decide, by decide⟩ rfl jko_79 (Nat.le_of_ble_eq_true rfl) ?_
    refine kPy_plan hP (by omega) rfl ?_
    refine jx_getr2 (pc := 15) rfl hP.1 (jrm_10_17 hP.1) ?_
    refine jx_next (pc := 18) (pc' := 19) rfl rfl ?_
    obtain ⟨hg4, K⟩ := jguard K
    refine jx_iald2 (pc := 19) rfl (jkm_10_17 hP.1) (jnm_10_17 hP.1) hg4 ?_
    refine jx_next (pc := 20) (pc' := 24) rfl rfl ?_
    obtain rfl := Option.some.inj K
    exact jx_iret (pc := 24) rfl HQ
noncomputable def fCr_clear_l2_b (v1 : Int32) (h : jH) : Option ((Int32 × jH) ⊕ (jH)) :=
  (if 32 < v1 then
  some (.inr h)
  else
  (if jin v1 33 then
  some (.inl (v1 + 1, jhL h 81 v1.toNatClampNeg 0))
  else none))
noncomputable def fCr_clear_l2  : (Int32 × jH) → Option ((Int32 × jH) ⊕ (jH)) :=
  fun (s : Int32 × jH) => fCr_clear_l2_b s.1 s.2
theorem kCr_clear_l2_b {X : jX} {dd : Nat} {p d : Nat} {q : Nat → Nat} {Q : Option Value → jS → Prop} {v1 : Int32} {h : jH} (hP : jOK p d q)  (hd : 0 ≤ dd) {z : (Int32 × jH) ⊕ (jH)} (K : fCr_clear_l2_b v1 h = some z) (HL : ∀ s : Int32 × jH, z = .inl s → jEx X dd jc_104 2 [some (.ref 80), some (.int s.1)] [] (176, jRf p d q, s.2) Q) (HE0 : ∀ x : jH, z = .inr x → jEx X dd jc_104 21 [some (.ref 80), none] [] (176, jRf p d q, x) Q) :
    jEx X dd jc_104 2 [some (.ref 80), some (.int v1)] [] (176, jRf p d q, h) Q := by
  unfold fCr_clear_l2_b at K
  refine jx_next (pc := 2) (pc' := 3) rfl rfl ?_
  refine jx_next (pc := 3) (pc' := 5) rfl rfl ?_
  refine jx_icgt (pc := 5) rfl (fun hc1 => ?_) (fun hc1 => ?_)
  · replace K := (if_pos hc1).symm.trans K
    obtain rfl := Option.some.inj K
    refine jx_le (pl' := [some (.ref 80), none]) (jle_v (jle_n jle_nil)) ?_
    exact HE0 _ rfl
  · replace K := (if_neg hc1).symm.trans K
    refine jx_next (pc := 8) (pc' := 9) rfl rfl ?_
    refine jx_getr2 (pc := 9) rfl jko_80 jr_9_0 ?_
    refine jx_next (pc := 12) (pc' := 13) rfl rfl ?_
    refine jx_next (pc := 13) (pc' := 14) rfl rfl ?_
    obtain ⟨hg2, K⟩ := jguard K
    refine jx_last2 (pc := 14) rfl jko_81 jno_81 hg2 ?_
    refine jx_inc (pc := 15) (x := v1) (p2 := [some (.ref 80), some (.int (v1 + 1))]) rfl rfl (jlt rfl) rfl ?_
    refine jx_next (pc := 18) (pc' := 2) rfl rfl ?_
    obtain rfl := Option.some.inj K
    refine jx_le (pl' := [some (.ref 80), some (.int (v1 + 1))]) (jle_v (jle_v jle_nil)) ?_
    exact HL (v1 + 1, jhL h 81 v1.toNatClampNeg 0) rfl
theorem kCr_clear_l2_w {X : jX} {dd : Nat} {p d : Nat} {q : Nat → Nat} {Q : Option Value → jS → Prop}  (hP : jOK p d q)  (hd : 0 ≤ dd) {s : Int32 × jH} {x : jH} (K : jlim (fCr_clear_l2 ) s = some x) (HE : jEx X dd jc_104 21 [some (.ref 80), none] [] (176, jRf p d q, x) Q) :
    jEx X dd jc_104 2 [some (.ref 80), some (.int s.1)] [] (176, jRf p d q, s.2) Q := by
  refine jlim_ok (G := fun s : Int32 × jH => jEx X dd jc_104 2 [some (.ref 80), some (.int s.1)] [] (176, jRf p d q, s.2) Q) (GX := fun x : jH => jEx X dd jc_104 21 [some (.ref 80), none] [] (176, jRf p d q, x) Q) (fun s z hz HL HE => ?_) K HE
  exact kCr_clear_l2_b hP  hd hz HL HE
/-- AndGuest$Crowd.clear()V -/
noncomputable def fCr_clear  (h : jH) : Option jH :=
  (Option.bind (jlim (fCr_clear_l2 ) (0, h)) (fun (x3 : jH) =>
  (if jin 0 33 then
  some (jhI (jhL x3 81 (0 : Int32).toNatClampNeg 100000000) 80 1 0)
  else none)))
theorem kCr_clear {X : jX} {dd : Nat} {p d : Nat} {q : Nat → Nat} {Q : Option Value → jS → Prop}  {h : jH} (hP : jOK p d q)  (hd : 0 ≤ dd) {z : jH} (K : fCr_clear  h = some z) (HQ : Q none (176, jRf p d q, z)) :
    jCa X dd 104 [.ref 80] (176, jRf p d q, h) Q := by
  unfold fCr_clear at K
  refine jCa_of (es := jc_104) (pl := [some (.ref 80), none]) (M := jm_104) rfl rfl rfl rfl ?_
  refine jx_next (pc := 0) (pc' := 1) rfl rfl ?_
  refine jx_stin (pc := 1) (p2 := [some (.ref 80), some (.int 0)]) rfl (jlt rfl) rfl ?_
  refine jx_le (pl' := [some (.ref 80), some (.int 0)]) (jle_v (jle_v jle_nil)) ?_
  obtain ⟨x3, hz_x3, K⟩ := Option.bind_eq_some_iff.mp K
  refine kCr_clear_l2_w hP  hd hz_x3 ?_
  refine jx_next (pc := 21) (pc' := 22) rfl rfl ?_
  refine jx_getr2 (pc := 22) rfl jko_80 jr_9_0 ?_
  refine jx_next (pc := 25) (pc' := 26) rfl rfl ?_
  refine jx_next (pc := 26) (pc' := 29) rfl rfl ?_
  obtain ⟨hg4, K⟩ := jguard K
  refine jx_last2 (pc := 29) rfl jko_81 jno_81 hg4 ?_
  refine jx_next (pc := 30) (pc' := 31) rfl rfl ?_
  refine jx_next (pc := 31) (pc' := 32) rfl rfl ?_
  refine jx_puti (pc := 32) rfl jko_80 ?_
  obtain rfl := Option.some.inj K
  exact jx_ret (pc := 35) rfl rfl HQ
noncomputable def fCr_add_l29_j57 (v1 : Int32) (v2 : Int32) (v3 : Int32) (s0 : Int64) (h : jH) : Option ((Int32 × jH) ⊕ (jH)) :=
  (if jin v3 33 then
  (if jin v3 33 then
  some (.inl (v3 + (-1), jhL h 81 v3.toNatClampNeg ((((h.2 81 v3.toNatClampNeg) / 10) * ((10 - v1).toInt64)) + s0)))
  else none)
  else none)
theorem kCr_add_l29_j57 {X : jX} {dd : Nat} {p d : Nat} {q : Nat → Nat} {Q : Option Value → jS → Prop} {v1 : Int32} {v2 : Int32} {v3 : Int32} {s0 : Int64} {h : jH} (hP : jOK p d q)  (hd : 1 ≤ (dd + 1)) {z : (Int32 × jH) ⊕ (jH)} (K : fCr_add_l29_j57 v1 v2 v3 s0 h = some z) (HL : ∀ s : Int32 × jH, z = .inl s → jEx X (dd + 1) jc_105 29 [some (.ref 80), some (.int v1), some (.int v2), some (.int s.1), none, none] [] (176, jRf p d q, s.2) Q) (HE0 : ∀ x : jH, z = .inr x → jEx X (dd + 1) jc_105 90 [none, none, none, none, none, none] [] (176, jRf p d q, x) Q) :
    jEx X (dd + 1) jc_105 57 [some (.ref 80), some (.int v1), some (.int v2), some (.int v3), none, none] [.long s0] (176, jRf p d q, h) Q := by
  unfold fCr_add_l29_j57 at K
  refine jx_stl (pc := 57) (p2 := [some (.ref 80), some (.int v1), some (.int v2), some (.int v3), some (.long s0), none]) rfl (jlt rfl) rfl ?_
  refine jx_next (pc := 59) (pc' := 60) rfl rfl ?_
  refine jx_getr2 (pc := 60) rfl jko_80 jr_9_0 ?_
  refine jx_next (pc := 63) (pc' := 64) rfl rfl ?_
  refine jx_next (pc := 64) (pc' := 65) rfl rfl ?_
  refine jx_getr2 (pc := 65) rfl jko_80 jr_9_0 ?_
  refine jx_next (pc := 68) (pc' := 69) rfl rfl ?_
  obtain ⟨hg6, K⟩ := jguard K
  refine jx_lald2 (pc := 69) rfl jko_81 jno_81 hg6 ?_
  refine jx_next (pc := 70) (pc' := 73) rfl rfl ?_
  refine jx_ldiv (pc := 73) rfl (by decide) ?_
  refine jx_next (pc := 74) (pc' := 76) rfl rfl ?_
  refine jx_next (pc := 76) (pc' := 77) rfl rfl ?_
  refine jx_next (pc := 77) (pc' := 78) rfl rfl ?_
  refine jx_next (pc := 78) (pc' := 79) rfl rfl ?_
  refine jx_next (pc := 79) (pc' := 80) rfl rfl ?_
  refine jx_next (pc := 80) (pc' := 82) rfl rfl ?_
  refine jx_next (pc := 82) (pc' := 83) rfl rfl ?_
  obtain ⟨hg7, K⟩ := jguard K
  refine jx_last2 (pc := 83) rfl jko_81 jno_81 hg7 ?_
  refine jx_inc (pc := 84) (x := v3) (p2 := [some (.ref 80), some (.int v1), some (.int v2), some (.int (v3 + (-1))), some (.long s0), none]) rfl rfl (jlt rfl) rfl ?_
  refine jx_next (pc := 87) (pc' := 29) rfl rfl ?_
  obtain rfl := Option.some.inj K
  refine jx_le (pl' := [some (.ref 80), some (.int v1), some (.int v2), some (.int (v3 + (-1))), none, none]) (jle_v (jle_v (jle_v (jle_v (jle_n (jle_n jle_nil)))))) ?_
  exact HL (v3 + (-1), jhL h 81 v3.toNatClampNeg ((((h.2 81 v3.toNatClampNeg) / 10) * ((10 - v1).toInt64)) + s0)) rfl
noncomputable def fCr_add_l29_b (v1 : Int32) (v2 : Int32) (v3 : Int32) (h : jH) : Option ((Int32 × jH) ⊕ (jH)) :=
  (if v3 < 0 then
  some (.inr h)
  else
  (if v3 < v2 then
  fCr_add_l29_j57  v1 v2 v3 0 h
  else
  (if jin (v3 - v2) 33 then
  fCr_add_l29_j57  v1 v2 v3 (((h.2 81 (v3 - v2).toNatClampNeg) / 10) * v1.toInt64) h
  else none)))
noncomputable def fCr_add_l29 (v1 : Int32) (v2 : Int32) : (Int32 × jH) → Option ((Int32 × jH) ⊕ (jH)) :=
  fun (s : Int32 × jH) => fCr_add_l29_b v1 v2 s.1 s.2
theorem kCr_add_l29_b {X : jX} {dd : Nat} {p d : Nat} {q : Nat → Nat} {Q : Option Value → jS → Prop} {v1 : Int32} {v2 : Int32} {v3 : Int32} {h : jH} (hP : jOK p d q)  (hd : 1 ≤ (dd + 1)) {z : (Int32 × jH) ⊕ (jH)} (K : fCr_add_l29_b v1 v2 v3 h = some z) (HL : ∀ s : Int32 × jH, z = .inl s → jEx X (dd + 1) jc_105 29 [some (.ref 80), some (.int v1), some (.int v2), some (.int s.1), none, none] [] (176, jRf p d q, s.2) Q) (HE0 : ∀ x : jH, z = .inr x → jEx X (dd + 1) jc_105 90 [none, none, none, none, none, none] [] (176, jRf p d q, x) Q) :
    jEx X (dd + 1) jc_105 29 [some (.ref 80), some (.int v1), some (.int v2), some (.int v3), none, none] [] (176, jRf p d q, h) Q := by
  unfold fCr_add_l29_b at K
  refine jx_next (pc := 29) (pc' := 30) rfl rfl ?_
  refine jx_iflt (pc := 30) rfl (fun hc4 => ?_) (fun hc4 => ?_)
  · replace K := (if_pos hc4).symm.trans K
    obtain rfl := Option.some.inj K
    refine jx_le (pl' := [none, none, none, none, none, none]) (jle_n (jle_n (jle_n (jle_n (jle_n (jle_n jle_nil)))))) ?_
    exact HE0 _ rfl
  · replace K := (if_neg hc4).symm.trans K
    refine jx_next (pc := 33) (pc' := 34) rfl rfl ?_
    refine jx_next (pc := 34) (pc' := 35) rfl rfl ?_
    refine jx_iclt (pc := 35) rfl (fun hc5 => ?_) (fun hc5 => ?_)
    · replace K := (if_pos hc5).symm.trans K
      refine jx_next (pc := 56) (pc' := 57) rfl rfl ?_
      refine jx_le (pl' := [some (.ref 80), some (.int v1), some (.int v2), some (.int v3), none, none]) (jle_v (jle_v (jle_v (jle_v (jle_n (jle_n jle_nil)))))) ?_
      exact kCr_add_l29_j57 hP  hd K HL HE0
    · replace K := (if_neg hc5).symm.trans K
      refine jx_next (pc := 38) (pc' := 39) rfl rfl ?_
      refine jx_getr2 (pc := 39) rfl jko_80 jr_9_0 ?_
      refine jx_next (pc := 42) (pc' := 43) rfl rfl ?_
      refine jx_next (pc := 43) (pc' := 44) rfl rfl ?_
      refine jx_next (pc := 44) (pc' := 45) rfl rfl ?_
      obtain ⟨hg8, K⟩ := jguard K
      refine jx_lald2 (pc := 45) rfl jko_81 jno_81 hg8 ?_
      refine jx_next (pc := 46) (pc' := 49) rfl rfl ?_
      refine jx_ldiv (pc := 49) rfl (by decide) ?_
      refine jx_next (pc := 50) (pc' := 51) rfl rfl ?_
      refine jx_next (pc := 51) (pc' := 52) rfl rfl ?_
      refine jx_next (pc := 52) (pc' := 53) rfl rfl ?_
      refine jx_next (pc := 53) (pc' := 57) rfl rfl ?_
      refine jx_le (pl' := [some (.ref 80), some (.int v1), some (.int v2), some (.int v3), none, none]) (jle_v (jle_v (jle_v (jle_v (jle_n (jle_n jle_nil)))))) ?_
      exact kCr_add_l29_j57 hP  hd K HL HE0
theorem kCr_add_l29_w {X : jX} {dd : Nat} {p d : Nat} {q : Nat → Nat} {Q : Option Value → jS → Prop} {v1 : Int32} {v2 : Int32} (hP : jOK p d q)  (hd : 1 ≤ (dd + 1)) {s : Int32 × jH} {x : jH} (K : jlim (fCr_add_l29 v1 v2) s = some x) (HE : jEx X (dd + 1) jc_105 90 [none, none, none, none, none, none] [] (176, jRf p d q, x) Q) :
    jEx X (dd + 1) jc_105 29 [some (.ref 80), some (.int v1), some (.int v2), some (.int s.1), none, none] [] (176, jRf p d q, s.2) Q := by
  refine jlim_ok (G := fun s : Int32 × jH => jEx X (dd + 1) jc_105 29 [some (.ref 80), some (.int v1), some (.int v2), some (.int s.1), none, none] [] (176, jRf p d q, s.2) Q) (GX := fun x : jH => jEx X (dd + 1) jc_105 90 [none, none, none, none, none, none] [] (176, jRf p d q, x) Q) (fun s z hz HL HE => ?_) K HE
  exact kCr_add_l29_b hP  hd hz HL HE
/-- AndGuest$Crowd.add(II)V -/
noncomputable def fCr_add (v1 : Int32) (v2 : Int32) (h : jH) : Option jH :=
  (if 0 < v1 then
  (if v2 < 0 then
  some h
  else
  (Option.bind (jlim (fCr_add_l29  v1 v2) ((jhI h 80 1 (fMt_min ((h.1 80 1) + v2) 32)).1 80 1, jhI h 80 1 (fMt_min ((h.1 80 1) + v2) 32))) (fun (x9 : jH) =>
  some x9)))
  else
  some h)
theorem kCr_add {X : jX} {dd : Nat} {p d : Nat} {q : Nat → Nat} {Q : Option Value → jS → Prop} {v1 : Int32} {v2 : Int32} {h : jH} (hP : jOK p d q)  (hd : 1 ≤ dd) {z : jH} (K : fCr_add v1 v2 h = some z) (HQ : Q none (176, jRf p d q, z)) :
    jCa X dd 105 [.ref 80, .int v1, .int v2] (176, jRf p d q, h) Q := by
  obtain ⟨dd, rfl⟩ : ∃ d9, dd = d9 + 1 := ⟨dd - 1, by omega⟩
  unfold fCr_add at K
  refine jCa_of (es := jc_105) (pl := [some (.ref 80), some (.int v1), some (.int v2), none, none, none]) (M := jm_105) rfl rfl rfl rfl ?_
  refine jx_next (pc := 0) (pc' := 1) rfl rfl ?_
  refine jx_ifle (pc := 1) rfl (fun hc1 => ?_) (fun hc1 => ?_)
  · replace K := (if_pos hc1).symm.trans K
    refine jx_next (pc := 4) (pc' := 5) rfl rfl ?_
    refine jx_ifge (pc := 5) rfl (fun hc2 => ?_) (fun hc2 => ?_)
    · replace K := (if_pos hc2).symm.trans K
      obtain rfl := Option.some.inj K
      exact jx_ret (pc := 8) rfl rfl HQ
    · replace K := (if_neg hc2).symm.trans K
      refine jx_next (pc := 9) (pc' := 10) rfl rfl ?_
      refine jx_next (pc := 10) (pc' := 11) rfl rfl ?_
      refine jx_geti (pc := 11) rfl jko_80 ?_
      refine jx_next (pc := 14) (pc' := 15) rfl rfl ?_
      refine jx_next (pc := 15) (pc' := 16) rfl rfl ?_
      refine jx_next (pc := 16) (pc' := 18) rfl rfl ?_
      refine jx_calls (pc := 18) rfl (Nat.le_of_ble_eq_true rfl) (Nat.le_of_ble_eq_true rfl) ?_
      refine kMt_min  (by omega) rfl ?_
      refine jx_puti (pc := 21) rfl jko_80 ?_
      refine jx_next (pc := 24) (pc' := 25) rfl rfl ?_
      refine jx_geti (pc := 25) rfl jko_80 ?_
      refine jx_stin (pc := 28) (p2 := [some (.ref 80), some (.int v1), some (.int v2), some (.int ((jhI h 80 1 (fMt_min ((h.1 80 1) + v2) 32)).1 80 1)), none, none]) rfl (jlt rfl) rfl ?_
      refine jx_le (pl' := [some (.ref 80), some (.int v1), some (.int v2), some (.int ((jhI h 80 1 (fMt_min ((h.1 80 1) + v2) 32)).1 80 1)), none, none]) (jle_v (jle_v (jle_v (jle_v (jle_n (jle_n jle_nil)))))) ?_
      obtain ⟨x9, hz_x9, K⟩ := Option.bind_eq_some_iff.mp K
      refine kCr_add_l29_w hP  hd hz_x9 ?_
      obtain rfl := Option.some.inj K
      exact jx_ret (pc := 90) rfl rfl HQ
  · replace K := (if_neg hc1).symm.trans K
    obtain rfl := Option.some.inj K
    exact jx_ret (pc := 8) rfl rfl HQ
noncomputable def fPy_crowdWhen_l9_j44 (p : Nat) (v1 : Int32) (v2 : Int32) (v3 : Int32) (s1 : Int32) (h : jH) : Option ((Int32 × jH) ⊕ (jH)) :=
  (if jin v3 8 then
  (Option.bind (fCr_add s1 (h.1 (p + 4) v3.toNatClampNeg) h) (fun (z6 : jH) =>
  some (.inl (v3 + 1, z6))))
  else none)
theorem kPy_crowdWhen_l9_j44 {X : jX} {dd : Nat} {p d : Nat} {q : Nat → Nat} {Q : Option Value → jS → Prop} {v1 : Int32} {v2 : Int32} {v3 : Int32} {s1 : Int32} {h : jH} (hP : jOK p d q)  (hd : 2 ≤ (dd + 1)) {z : (Int32 × jH) ⊕ (jH)} (K : fPy_crowdWhen_l9_j44 p v1 v2 v3 s1 h = some z) (HL : ∀ s : Int32 × jH, z = .inl s → jEx X (dd + 1) jc_103 9 [some (.ref 79), some (.int v1), some (.int v2), some (.int s.1)] [] (176, jRf p d q, s.2) Q) (HE0 : ∀ x : jH, z = .inr x → jEx X (dd + 1) jc_103 62 [some (.ref 79), none, none, none] [] (176, jRf p d q, x) Q) :
    jEx X (dd + 1) jc_103 44 [some (.ref 79), some (.int v1), some (.int v2), some (.int v3)] [.int s1, .ref 80] (176, jRf p d q, h) Q := by
  unfold fPy_crowdWhen_l9_j44 at K
  refine jx_next (pc := 44) (pc' := 45) rfl rfl ?_
  refine jx_getr2 (pc := 45) rfl jko_79 jr_8_4 ?_
  refine jx_getr2 (pc := 48) rfl hP.1 (jrm_10_13 hP.1) ?_
  refine jx_next (pc := 51) (pc' := 52) rfl rfl ?_
  obtain ⟨hg5, K⟩ := jguard K
  refine jx_iald2 (pc := 52) rfl (jkm_10_13 hP.1) (jnm_10_13 hP.1) hg5 ?_
  refine jx_callv (pc := 53) (o := 80) (rest := []) rfl ⟨by decide, by decide⟩ rfl jko_80 (Nat.le_of_ble_eq_true rfl) ?_
  obtain ⟨z6, hz_z6, K⟩ := Option.bind_eq_some_iff.mp K
  refine kCr_add hP (by omega) hz_z6 ?_
  refine jx_inc (pc := 56) (x := v3) (p2 := [some (.ref 79), some (.int v1), some (.int v2), some (.int (v3 + 1))]) rfl rfl (jlt rfl) rfl ?_
  refine jx_next (pc := 59) (pc' := 9) rfl rfl ?_
  obtain rfl := Option.some.inj K
  refine jx_le (pl' := [some (.ref 79), some (.int v1), some (.int v2), some (.int (v3 + 1))]) (jle_v (jle_v (jle_v (jle_v jle_nil)))) ?_
  exact HL (v3 + 1, z6) rfl
noncomputable def fPy_crowdWhen_l9_b (p : Nat) (v1 : Int32) (v2 : Int32) (v3 : Int32) (h : jH) : Option ((Int32 × jH) ⊕ (jH)) :=
  (if v3 < (h.1 p 0) then
  (if v3 < 8 then
  (if v3 = v1 then
  fPy_crowdWhen_l9_j44  p v1 v2 v3 v2 h
  else
  (Option.bind (fPy_comesNow p v3 h) (fun (z7 : Int32) =>
  fPy_crowdWhen_l9_j44  p v1 v2 v3 z7 h)))
  else
  some (.inr h))
  else
  some (.inr h))
noncomputable def fPy_crowdWhen_l9 (p : Nat) (v1 : Int32) (v2 : Int32) : (Int32 × jH) → Option ((Int32 × jH) ⊕ (jH)) :=
  fun (s : Int32 × jH) => fPy_crowdWhen_l9_b p v1 v2 s.1 s.2
theorem kPy_crowdWhen_l9_b {X : jX} {dd : Nat} {p d : Nat} {q : Nat → Nat} {Q : Option Value → jS → Prop} {v1 : Int32} {v2 : Int32} {v3 : Int32} {h : jH} (hP : jOK p d q)  (hd : 2 ≤ (dd + 1)) {z : (Int32 × jH) ⊕ (jH)} (K : fPy_crowdWhen_l9_b p v1 v2 v3 h = some z) (HL : ∀ s : Int32 × jH, z = .inl s → jEx X (dd + 1) jc_103 9 [some (.ref 79), some (.int v1), some (.int v2), some (.int s.1)] [] (176, jRf p d q, s.2) Q) (HE0 : ∀ x : jH, z = .inr x → jEx X (dd + 1) jc_103 62 [some (.ref 79), none, none, none] [] (176, jRf p d q, x) Q) :
    jEx X (dd + 1) jc_103 9 [some (.ref 79), some (.int v1), some (.int v2), some (.int v3)] [] (176, jRf p d q, h) Q := by
  unfold fPy_crowdWhen_l9_b at K
  refine jx_next (pc := 9) (pc' := 10) rfl rfl ?_
  refine jx_next (pc := 10) (pc' := 11) rfl rfl ?_
  refine jx_getr2 (pc := 11) rfl jko_79 jr_8_4 ?_
  refine jx_geti (pc := 14) rfl hP.1 ?_
  refine jx_icge (pc := 17) rfl (fun hc2 => ?_) (fun hc2 => ?_)
  · replace K := (if_pos hc2).symm.trans K
    refine jx_next (pc := 20) (pc' := 21) rfl rfl ?_
    refine jx_next (pc := 21) (pc' := 23) rfl rfl ?_
    refine jx_icge (pc := 23) rfl (fun hc3 => ?_) (fun hc3 => ?_)
    · replace K := (if_pos hc3).symm.trans K
      refine jx_next (pc := 26) (pc' := 27) rfl rfl ?_
      refine jx_getr2 (pc := 27) rfl jko_79 jr_8_1 ?_
      refine jx_next (pc := 30) (pc' := 31) rfl rfl ?_
      refine jx_next (pc := 31) (pc' := 32) rfl rfl ?_
      refine jx_icne (pc := 32) rfl (fun hc4 => ?_) (fun hc4 => ?_)
      · replace K := (if_pos hc4).symm.trans K
        refine jx_next (pc := 35) (pc' := 36) rfl rfl ?_
        refine jx_next (pc := 36) (pc' := 44) rfl rfl ?_
        refine jx_le (pl' := [some (.ref 79), some (.int v1), some (.int v2), some (.int v3)]) (jle_v (jle_v (jle_v (jle_v jle_nil)))) ?_
        exact kPy_crowdWhen_l9_j44 hP  hd K HL HE0
      · replace K := (if_neg hc4).symm.trans K
        refine jx_next (pc := 39) (pc' := 40) rfl rfl ?_
        refine jx_next (pc := 40) (pc' := 41) rfl rfl ?_
        refine jx_callv (pc := 41) (o := 79) (rest := [.ref 80]) rfl ⟨by decide, by decide⟩ rfl jko_79 (Nat.le_of_ble_eq_true rfl) ?_
        obtain ⟨z7, hz_z7, K⟩ := Option.bind_eq_some_iff.mp K
        refine kPy_comesNow hP (by omega) hz_z7 ?_
        refine jx_le (pl' := [some (.ref 79), some (.int v1), some (.int v2), some (.int v3)]) (jle_v (jle_v (jle_v (jle_v jle_nil)))) ?_
        exact kPy_crowdWhen_l9_j44 hP  hd K HL HE0
    · replace K := (if_neg hc3).symm.trans K
      obtain rfl := Option.some.inj K
      refine jx_le (pl' := [some (.ref 79), none, none, none]) (jle_v (jle_n (jle_n (jle_n jle_nil)))) ?_
      exact HE0 _ rfl
  · replace K := (if_neg hc2).symm.trans K
    obtain rfl := Option.some.inj K
    refine jx_le (pl' := [some (.ref 79), none, none, none]) (jle_v (jle_n (jle_n (jle_n jle_nil)))) ?_
    exact HE0 _ rfl
theorem kPy_crowdWhen_l9_w {X : jX} {dd : Nat} {p d : Nat} {q : Nat → Nat} {Q : Option Value → jS → Prop} {v1 : Int32} {v2 : Int32} (hP : jOK p d q)  (hd : 2 ≤ (dd + 1)) {s : Int32 × jH} {x : jH} (K : jlim (fPy_crowdWhen_l9 p v1 v2) s = some x) (HE : jEx X (dd + 1) jc_103 62 [some (.ref 79), none, none, none] [] (176, jRf p d q, x) Q) :
    jEx X (dd + 1) jc_103 9 [some (.ref 79), some (.int v1), some (.int v2), some (.int s.1)] [] (176, jRf p d q, s.2) Q := by
  refine jlim_ok (G := fun s : Int32 × jH => jEx X (dd + 1) jc_103 9 [some (.ref 79), some (.int v1), some (.int v2), some (.int s.1)] [] (176, jRf p d q, s.2) Q) (GX := fun x : jH => jEx X (dd + 1) jc_103 62 [some (.ref 79), none, none, none] [] (176, jRf p d q, x) Q) (fun s z hz HL HE => ?_) K HE
  exact kPy_crowdWhen_l9_b hP  hd hz HL HE
/-- AndGuest$Party.crowdWhen(II)LAndGuest$Crowd; -/
noncomputable def fPy_crowdWhen (p : Nat) (v1 : Int32) (v2 : Int32) (h : jH) : Option (Nat × jH) :=
  (Option.bind (fCr_clear h) (fun (z1 : jH) =>
  (Option.bind (jlim (fPy_crowdWhen_l9  p v1 v2) (0, z1)) (fun (x8 : jH) =>
  some (80, x8)))))
theorem kPy_crowdWhen {X : jX} {dd : Nat} {p d : Nat} {q : Nat → Nat} {Q : Option Value → jS → Prop} {v1 : Int32} {v2 : Int32} {h : jH} (hP : jOK p d q)  (hd : 2 ≤ dd) {z : Nat × jH} (K : fPy_crowdWhen p v1 v2 h = some z) (HQ : Q (some (.ref 80)) (176, jRf p d q, z.2)) :
    jCa X dd 103 [.ref 79, .int v1, .int v2] (176, jRf p d q, h) Q := by
  obtain ⟨dd, rfl⟩ : ∃ d9, dd = d9 + 1 := ⟨dd - 1, by omega⟩
  unfold fPy_crowdWhen at K
  refine jCa_of (es := jc_103) (pl := [some (.ref 79), some (.int v1), some (.int v2), none]) (M := jm_103) rfl rfl rfl rfl ?_
  refine jx_next (pc := 0) (pc' := 1) rfl rfl ?_
  refine jx_getr2 (pc := 1) rfl jko_79 jr_8_1 ?_
  refine jx_callv (pc := 4) (o := 80) (rest := []) rfl ⟨by decide, by decide⟩ rfl jko_80 (Nat.le_of_ble_eq_true rfl) ?_
  obtain ⟨z1, hz_z1, K⟩ := Option.bind_eq_some_iff.mp K
  refine kCr_clear hP (by omega) hz_z1 ?_
  refine jx_next (pc := 7) (pc' := 8) rfl rfl ?_
  refine jx_stin (pc := 8) (p2 := [some (.ref 79), some (.int v1), some (.int v2), some (.int 0)]) rfl (jlt rfl) rfl ?_
  refine jx_le (pl' := [some (.ref 79), some (.int v1), some (.int v2), some (.int 0)]) (jle_v (jle_v (jle_v (jle_v jle_nil)))) ?_
  obtain ⟨x8, hz_x8, K⟩ := Option.bind_eq_some_iff.mp K
  refine kPy_crowdWhen_l9_w hP  hd hz_x8 ?_
  refine jx_next (pc := 62) (pc' := 63) rfl rfl ?_
  refine jx_getr2 (pc := 63) rfl jko_79 jr_8_1 ?_
  obtain rfl := Option.some.inj K
  exact jx_ret (pc := 66) rfl rfl HQ
/-- AndGuest$Party.crowdNow()LAndGuest$Crowd; -/
noncomputable def fPy_crowdNow (p : Nat)  (h : jH) : Option (Nat × jH) :=
  (Option.bind (fPy_crowdWhen p (-1) 0 h) (fun (z1 : Nat × jH) =>
  some (80, z1.2)))
theorem kPy_crowdNow {X : jX} {dd : Nat} {p d : Nat} {q : Nat → Nat} {Q : Option Value → jS → Prop}  {h : jH} (hP : jOK p d q)  (hd : 3 ≤ dd) {z : Nat × jH} (K : fPy_crowdNow p  h = some z) (HQ : Q (some (.ref 80)) (176, jRf p d q, z.2)) :
    jCa X dd 102 [.ref 79] (176, jRf p d q, h) Q := by
  obtain ⟨dd, rfl⟩ : ∃ d9, dd = d9 + 1 := ⟨dd - 1, by omega⟩
  unfold fPy_crowdNow at K
  refine jCa_of (es := jc_102) (pl := [some (.ref 79)]) (M := jm_102) rfl rfl rfl rfl ?_
  refine jx_next (pc := 0) (pc' := 1) rfl rfl ?_
  refine jx_next (pc := 1) (pc' := 2) rfl rfl ?_
  refine jx_next (pc := 2) (pc' := 3) rfl rfl ?_
  refine jx_callv (pc := 3) (o := 79) (rest := []) rfl ⟨by decide, by decide⟩ rfl jko_79 (Nat.le_of_ble_eq_true rfl) ?_
  obtain ⟨z1, hz_z1, K⟩ := Option.bind_eq_some_iff.mp K
  refine kPy_crowdWhen hP (by omega) hz_z1 ?_
  obtain rfl := Option.some.inj K
  exact jx_ret (pc := 6) rfl rfl HQ
/-- AndGuest$Crowd.justMillionths(I)J -/
noncomputable def fCr_justMillionths (v1 : Int32) (h : jH) : Option Int64 :=
  (if v1 < 0 then
  some (0 : Int64)
  else
  (if 32 < v1 then
  some (0 : Int64)
  else
  (if jin v1 33 then
  some ((h.2 81 v1.toNatClampNeg) / 100 : Int64)
  else none)))
theorem kCr_justMillionths {X : jX} {dd : Nat} {p d : Nat} {q : Nat → Nat} {Q : Option Value → jS → Prop} {v1 : Int32} {h : jH} (hP : jOK p d q)  (hd : 0 ≤ dd) {z : Int64} (K : fCr_justMillionths v1 h = some z) (HQ : Q (some (.long z)) (176, jRf p d q, h)) :
    jCa X dd 106 [.ref 80, .int v1] (176, jRf p d q, h) Q := by
  unfold fCr_justMillionths at K
  refine jCa_of (es := jc_106) (pl := [some (.ref 80), some (.int v1)]) (M := jm_106) rfl rfl rfl rfl ?_
  refine jx_next (pc := 0) (pc' := 1) rfl rfl ?_
  refine jx_iflt (pc := 1) rfl (fun hc1 => ?_) (fun hc1 => ?_)
  · replace K := (if_pos hc1).symm.trans K
    refine jx_next (pc := 23) (pc' := 24) rfl rfl ?_
    obtain rfl := Option.some.inj K
    exact jx_ret (pc := 24) rfl rfl HQ
  · replace K := (if_neg hc1).symm.trans K
    refine jx_next (pc := 4) (pc' := 5) rfl rfl ?_
    refine jx_next (pc := 5) (pc' := 7) rfl rfl ?_
    refine jx_icgt (pc := 7) rfl (fun hc2 => ?_) (fun hc2 => ?_)
    · replace K := (if_pos hc2).symm.trans K
      refine jx_next (pc := 23) (pc' := 24) rfl rfl ?_
      obtain rfl := Option.some.inj K
      exact jx_ret (pc := 24) rfl rfl HQ
    · replace K := (if_neg hc2).symm.trans K
      refine jx_next (pc := 10) (pc' := 11) rfl rfl ?_
      refine jx_getr2 (pc := 11) rfl jko_80 jr_9_0 ?_
      refine jx_next (pc := 14) (pc' := 15) rfl rfl ?_
      obtain ⟨hg3, K⟩ := jguard K
      refine jx_lald2 (pc := 15) rfl jko_81 jno_81 hg3 ?_
      refine jx_next (pc := 16) (pc' := 19) rfl rfl ?_
      refine jx_ldiv (pc := 19) rfl (by decide) ?_
      refine jx_next (pc := 20) (pc' := 24) rfl rfl ?_
      obtain rfl := Option.some.inj K
      exact jx_ret (pc := 24) rfl rfl HQ
/-- AndGuest.odds(I)I -/
noncomputable def fA_odds (p : Nat) (v1 : Int32) (h : jH) : Option (Int32 × jH) :=
  (if (h.1 1 12) = 0 then
  some ((-1), h)
  else
  (if v1 < 0 then
  some ((-1), h)
  else
  (if 32 < v1 then
  some ((-1), h)
  else
  (Option.bind (fPy_crowdNow p h) (fun (z4 : Nat × jH) =>
  (Option.bind (fCr_justMillionths v1 z4.2) (fun (z5 : Int64) =>
  some (z5.toInt32, z4.2))))))))
theorem kA_odds {X : jX} {dd : Nat} {p d : Nat} {q : Nat → Nat} {Q : Option Value → jS → Prop} {v1 : Int32} {h : jH} (hP : jOK p d q)  (hd : 4 ≤ dd) {z : Int32 × jH} (K : fA_odds p v1 h = some z) (HQ : Q (some (.int z.1)) (176, jRf p d q, z.2)) :
    jCa X dd 101 [.ref 1, .int v1] (176, jRf p d q, h) Q := by
  obtain ⟨dd, rfl⟩ : ∃ d9, dd = d9 + 1 := ⟨dd - 1, by omega⟩
  unfold fA_odds at K
  refine jCa_of (es := jc_101) (pl := [some (.ref 1), some (.int v1)]) (M := jm_101) rfl rfl rfl rfl ?_
  refine jx_next (pc := 0) (pc' := 1) rfl rfl ?_
  refine jx_getz (pc := 1) rfl jko_1 ?_
  refine jx_ifeq (pc := 4) rfl (fun hc1 => ?_) (fun hc1 => ?_)
  · replace K := (if_pos hc1).symm.trans K
    refine jx_next (pc := 17) (pc' := 18) rfl rfl ?_
    obtain rfl := Option.some.inj K
    exact jx_iret (pc := 18) rfl HQ
  · replace K := (if_neg hc1).symm.trans K
    refine jx_next (pc := 7) (pc' := 8) rfl rfl ?_
    refine jx_iflt (pc := 8) rfl (fun hc2 => ?_) (fun hc2 => ?_)
    · replace K := (if_pos hc2).symm.trans K
      refine jx_next (pc := 17) (pc' := 18) rfl rfl ?_
      obtain rfl := Option.some.inj K
      exact jx_iret (pc := 18) rfl HQ
    · replace K := (if_neg hc2).symm.trans K
      refine jx_next (pc := 11) (pc' := 12) rfl rfl ?_
      refine jx_next (pc := 12) (pc' := 14) rfl rfl ?_
      refine jx_icle (pc := 14) rfl (fun hc3 => ?_) (fun hc3 => ?_)
      · replace K := (if_pos hc3).symm.trans K
        refine jx_next (pc := 17) (pc' := 18) rfl rfl ?_
        obtain rfl := Option.some.inj K
        exact jx_iret (pc := 18) rfl HQ
      · replace K := (if_neg hc3).symm.trans K
        refine jx_next (pc := 19) (pc' := 20) rfl rfl ?_
        refine jx_getr2 (pc := 20) rfl jko_1 jr_1_8 ?_
        refine jx_callv (pc := 23) (o := 79) (rest := []) rfl ⟨by decide, by decide⟩ rfl jko_79 (Nat.le_of_ble_eq_true rfl) ?_
        obtain ⟨z4, hz_z4, K⟩ := Option.bind_eq_some_iff.mp K
        refine kPy_crowdNow hP (by omega) hz_z4 ?_
        refine jx_next (pc := 26) (pc' := 27) rfl rfl ?_
        refine jx_callv (pc := 27) (o := 80) (rest := []) rfl ⟨by decide, by decide⟩ rfl jko_80 (Nat.le_of_ble_eq_true rfl) ?_
        obtain ⟨z5, hz_z5, K⟩ := Option.bind_eq_some_iff.mp K
        refine kCr_justMillionths hP (by omega) hz_z5 ?_
        refine jx_next (pc := 30) (pc' := 31) rfl rfl ?_
        obtain rfl := Option.some.inj K
        exact jx_iret (pc := 31) rfl HQ
noncomputable def fCr_moreMillionths_l5_j28 (v1 : Int32) (v2 : Int64) (v4 : Int32) (h : jH) : Option ((Int64 × Int32) ⊕ (Int64)) :=
  some (.inl (v2, v4 + 1))
theorem kCr_moreMillionths_l5_j28 {X : jX} {dd : Nat} {p d : Nat} {q : Nat → Nat} {Q : Option Value → jS → Prop} {v1 : Int32} {v2 : Int64} {v4 : Int32} {h : jH} (hP : jOK p d q)  (hd : 0 ≤ dd) {z : (Int64 × Int32) ⊕ (Int64)} (K : fCr_moreMillionths_l5_j28 v1 v2 v4 h = some z) (HL : ∀ s : Int64 × Int32, z = .inl s → jEx X dd jc_108 5 [some (.ref 80), some (.int v1), some (.long s.1), none, some (.int s.2)] [] (176, jRf p d q, h) Q) (HE0 : ∀ x : Int64, z = .inr x → jEx X dd jc_108 34 [none, none, some (.long x), none, none] [] (176, jRf p d q, h) Q) :
    jEx X dd jc_108 28 [some (.ref 80), some (.int v1), some (.long v2), none, some (.int v4)] [] (176, jRf p d q, h) Q := by
  unfold fCr_moreMillionths_l5_j28 at K
  refine jx_inc (pc := 28) (x := v4) (p2 := [some (.ref 80), some (.int v1), some (.long v2), none, some (.int (v4 + 1))]) rfl rfl (jlt rfl) rfl ?_
  refine jx_next (pc := 31) (pc' := 5) rfl rfl ?_
  obtain rfl := Option.some.inj K
  refine jx_le (pl' := [some (.ref 80), some (.int v1), some (.long v2), none, some (.int (v4 + 1))]) (jle_v (jle_v (jle_v (jle_n (jle_v jle_nil))))) ?_
  exact HL (v2, v4 + 1) rfl
noncomputable def fCr_moreMillionths_l5_b (v1 : Int32) (v2 : Int64) (v4 : Int32) (h : jH) : Option ((Int64 × Int32) ⊕ (Int64)) :=
  (if 32 < v4 then
  some (.inr v2)
  else
  (if v1 < v4 then
  (if jin v4 33 then
  fCr_moreMillionths_l5_j28  v1 (v2 + (h.2 81 v4.toNatClampNeg)) v4 h
  else none)
  else
  fCr_moreMillionths_l5_j28  v1 v2 v4 h))
noncomputable def fCr_moreMillionths_l5 (v1 : Int32) (h : jH) : (Int64 × Int32) → Option ((Int64 × Int32) ⊕ (Int64)) :=
  fun (s : Int64 × Int32) => fCr_moreMillionths_l5_b v1 s.1 s.2 h
theorem kCr_moreMillionths_l5_b {X : jX} {dd : Nat} {p d : Nat} {q : Nat → Nat} {Q : Option Value → jS → Prop} {v1 : Int32} {v2 : Int64} {v4 : Int32} {h : jH} (hP : jOK p d q)  (hd : 0 ≤ dd) {z : (Int64 × Int32) ⊕ (Int64)} (K : fCr_moreMillionths_l5_b v1 v2 v4 h = some z) (HL : ∀ s : Int64 × Int32, z = .inl s → jEx X dd jc_108 5 [some (.ref 80), some (.int v1), some (.long s.1), none, some (.int s.2)] [] (176, jRf p d q, h) Q) (HE0 : ∀ x : Int64, z = .inr x → jEx X dd jc_108 34 [none, none, some (.long x), none, none] [] (176, jRf p d q, h) Q) :
    jEx X dd jc_108 5 [some (.ref 80), some (.int v1), some (.long v2), none, some (.int v4)] [] (176, jRf p d q, h) Q := by
  unfold fCr_moreMillionths_l5_b at K
  refine jx_next (pc := 5) (pc' := 7) rfl rfl ?_
  refine jx_next (pc := 7) (pc' := 9) rfl rfl ?_
  refine jx_icgt (pc := 9) rfl (fun hc1 => ?_) (fun hc1 => ?_)
  · replace K := (if_pos hc1).symm.trans K
    obtain rfl := Option.some.inj K
    refine jx_le (pl' := [none, none, some (.long v2), none, none]) (jle_n (jle_n (jle_v (jle_n (jle_n jle_nil))))) ?_
    exact HE0 _ rfl
  · replace K := (if_neg hc1).symm.trans K
    refine jx_next (pc := 12) (pc' := 14) rfl rfl ?_
    refine jx_next (pc := 14) (pc' := 15) rfl rfl ?_
    refine jx_icle (pc := 15) rfl (fun hc2 => ?_) (fun hc2 => ?_)
    · replace K := (if_pos hc2).symm.trans K
      refine jx_next (pc := 18) (pc' := 19) rfl rfl ?_
      refine jx_next (pc := 19) (pc' := 20) rfl rfl ?_
      refine jx_getr2 (pc := 20) rfl jko_80 jr_9_0 ?_
      refine jx_next (pc := 23) (pc' := 25) rfl rfl ?_
      obtain ⟨hg3, K⟩ := jguard K
      refine jx_lald2 (pc := 25) rfl jko_81 jno_81 hg3 ?_
      refine jx_next (pc := 26) (pc' := 27) rfl rfl ?_
      refine jx_stln (pc := 27) (p2 := [some (.ref 80), some (.int v1), some (.long (v2 + (h.2 81 v4.toNatClampNeg))), none, some (.int v4)]) rfl (jlt rfl) rfl ?_
      refine jx_le (pl' := [some (.ref 80), some (.int v1), some (.long (v2 + (h.2 81 v4.toNatClampNeg))), none, some (.int v4)]) (jle_v (jle_v (jle_v (jle_n (jle_v jle_nil))))) ?_
      exact kCr_moreMillionths_l5_j28 hP  hd K HL HE0
    · replace K := (if_neg hc2).symm.trans K
      refine jx_le (pl' := [some (.ref 80), some (.int v1), some (.long v2), none, some (.int v4)]) (jle_v (jle_v (jle_v (jle_n (jle_v jle_nil))))) ?_
      exact kCr_moreMillionths_l5_j28 hP  hd K HL HE0
theorem kCr_moreMillionths_l5_w {X : jX} {dd : Nat} {p d : Nat} {q : Nat → Nat} {Q : Option Value → jS → Prop} {v1 : Int32} {h : jH} (hP : jOK p d q)  (hd : 0 ≤ dd) {s : Int64 × Int32} {x : Int64} (K : jlim (fCr_moreMillionths_l5 v1 h) s = some x) (HE : jEx X dd jc_108 34 [none, none, some (.long x), none, none] [] (176, jRf p d q, h) Q) :
    jEx X dd jc_108 5 [some (.ref 80), some (.int v1), some (.long s.1), none, some (.int s.2)] [] (176, jRf p d q, h) Q := by
  refine jlim_ok (G := fun s : Int64 × Int32 => jEx X dd jc_108 5 [some (.ref 80), some (.int v1), some (.long s.1), none, some (.int s.2)] [] (176, jRf p d q, h) Q) (GX := fun x : Int64 => jEx X dd jc_108 34 [none, none, some (.long x), none, none] [] (176, jRf p d q, h) Q) (fun s z hz HL HE => ?_) K HE
  exact kCr_moreMillionths_l5_b hP  hd hz HL HE
/-- AndGuest$Crowd.moreMillionths(I)J -/
noncomputable def fCr_moreMillionths (v1 : Int32) (h : jH) : Option Int64 :=
  (Option.bind (jlim (fCr_moreMillionths_l5  v1 h) (0, 0)) (fun (x4 : Int64) =>
  some (x4 / 100 : Int64)))
theorem kCr_moreMillionths {X : jX} {dd : Nat} {p d : Nat} {q : Nat → Nat} {Q : Option Value → jS → Prop} {v1 : Int32} {h : jH} (hP : jOK p d q)  (hd : 0 ≤ dd) {z : Int64} (K : fCr_moreMillionths v1 h = some z) (HQ : Q (some (.long z)) (176, jRf p d q, h)) :
    jCa X dd 108 [.ref 80, .int v1] (176, jRf p d q, h) Q := by
  unfold fCr_moreMillionths at K
  refine jCa_of (es := jc_108) (pl := [some (.ref 80), some (.int v1), none, none, none]) (M := jm_108) rfl rfl rfl rfl ?_
  refine jx_next (pc := 0) (pc' := 1) rfl rfl ?_
  refine jx_stln (pc := 1) (p2 := [some (.ref 80), some (.int v1), some (.long 0), none, none]) rfl (jlt rfl) rfl ?_
  refine jx_next (pc := 2) (pc' := 3) rfl rfl ?_
  refine jx_sti (pc := 3) (p2 := [some (.ref 80), some (.int v1), some (.long 0), none, some (.int 0)]) rfl (jlt rfl) rfl ?_
  refine jx_le (pl' := [some (.ref 80), some (.int v1), some (.long 0), none, some (.int 0)]) (jle_v (jle_v (jle_v (jle_n (jle_v jle_nil))))) ?_
  obtain ⟨x4, hz_x4, K⟩ := Option.bind_eq_some_iff.mp K
  refine kCr_moreMillionths_l5_w hP  hd hz_x4 ?_
  refine jx_next (pc := 34) (pc' := 35) rfl rfl ?_
  refine jx_next (pc := 35) (pc' := 38) rfl rfl ?_
  refine jx_ldiv (pc := 38) rfl (by decide) ?_
  obtain rfl := Option.some.inj K
  exact jx_ret (pc := 39) rfl rfl HQ
/-- AndGuest.above(I)I -/
noncomputable def fA_above (p : Nat) (v1 : Int32) (h : jH) : Option (Int32 × jH) :=
  (if (h.1 1 12) = 0 then
  some ((-1), h)
  else
  (if v1 < 0 then
  some ((-1), h)
  else
  (if 32 < v1 then
  some ((-1), h)
  else
  (Option.bind (fPy_crowdNow p h) (fun (z4 : Nat × jH) =>
  (Option.bind (fCr_moreMillionths v1 z4.2) (fun (z5 : Int64) =>
  some (z5.toInt32, z4.2))))))))
theorem kA_above {X : jX} {dd : Nat} {p d : Nat} {q : Nat → Nat} {Q : Option Value → jS → Prop} {v1 : Int32} {h : jH} (hP : jOK p d q)  (hd : 4 ≤ dd) {z : Int32 × jH} (K : fA_above p v1 h = some z) (HQ : Q (some (.int z.1)) (176, jRf p d q, z.2)) :
    jCa X dd 107 [.ref 1, .int v1] (176, jRf p d q, h) Q := by
  obtain ⟨dd, rfl⟩ : ∃ d9, dd = d9 + 1 := ⟨dd - 1, by omega⟩
  unfold fA_above at K
  refine jCa_of (es := jc_107) (pl := [some (.ref 1), some (.int v1)]) (M := jm_107) rfl rfl rfl rfl ?_
  refine jx_next (pc := 0) (pc' := 1) rfl rfl ?_
  refine jx_getz (pc := 1) rfl jko_1 ?_
  refine jx_ifeq (pc := 4) rfl (fun hc1 => ?_) (fun hc1 => ?_)
  · replace K := (if_pos hc1).symm.trans K
    refine jx_next (pc := 17) (pc' := 18) rfl rfl ?_
    obtain rfl := Option.some.inj K
    exact jx_iret (pc := 18) rfl HQ
  · replace K := (if_neg hc1).symm.trans K
    refine jx_next (pc := 7) (pc' := 8) rfl rfl ?_
    refine jx_iflt (pc := 8) rfl (fun hc2 => ?_) (fun hc2 => ?_)
    · replace K := (if_pos hc2).symm.trans K
      refine jx_next (pc := 17) (pc' := 18) rfl rfl ?_
      obtain rfl := Option.some.inj K
      exact jx_iret (pc := 18) rfl HQ
    · replace K := (if_neg hc2).symm.trans K
      refine jx_next (pc := 11) (pc' := 12) rfl rfl ?_
      refine jx_next (pc := 12) (pc' := 14) rfl rfl ?_
      refine jx_icle (pc := 14) rfl (fun hc3 => ?_) (fun hc3 => ?_)
      · replace K := (if_pos hc3).symm.trans K
        refine jx_next (pc := 17) (pc' := 18) rfl rfl ?_
        obtain rfl := Option.some.inj K
        exact jx_iret (pc := 18) rfl HQ
      · replace K := (if_neg hc3).symm.trans K
        refine jx_next (pc := 19) (pc' := 20) rfl rfl ?_
        refine jx_getr2 (pc := 20) rfl jko_1 jr_1_8 ?_
        refine jx_callv (pc := 23) (o := 79) (rest := []) rfl ⟨by decide, by decide⟩ rfl jko_79 (Nat.le_of_ble_eq_true rfl) ?_
        obtain ⟨z4, hz_z4, K⟩ := Option.bind_eq_some_iff.mp K
        refine kPy_crowdNow hP (by omega) hz_z4 ?_
        refine jx_next (pc := 26) (pc' := 27) rfl rfl ?_
        refine jx_callv (pc := 27) (o := 80) (rest := []) rfl ⟨by decide, by decide⟩ rfl jko_80 (Nat.le_of_ble_eq_true rfl) ?_
        obtain ⟨z5, hz_z5, K⟩ := Option.bind_eq_some_iff.mp K
        refine kCr_moreMillionths hP (by omega) hz_z5 ?_
        refine jx_next (pc := 30) (pc' := 31) rfl rfl ?_
        obtain rfl := Option.some.inj K
        exact jx_iret (pc := 31) rfl HQ
noncomputable def fCr_someOf_l25_j72 (v0 : Int32) (v1 : Int32) (v2 : Int32) (v3 : Int64) (v5 : Int64) (v7 : Int32) (h : jH) : Option ((Int64 × Int64 × Int32) ⊕ (Int64 × Int64)) :=
  some (.inl (v3, v5, v7 + 1))
theorem kCr_someOf_l25_j72 {X : jX} {dd : Nat} {p d : Nat} {q : Nat → Nat} {Q : Option Value → jS → Prop} {v0 : Int32} {v1 : Int32} {v2 : Int32} {v3 : Int64} {v5 : Int64} {v7 : Int32} {h : jH} (hP : jOK p d q)  (hd : 0 ≤ dd) {z : (Int64 × Int64 × Int32) ⊕ (Int64 × Int64)} (K : fCr_someOf_l25_j72 v0 v1 v2 v3 v5 v7 h = some z) (HL : ∀ s : Int64 × Int64 × Int32, z = .inl s → jEx X dd jc_110 25 [some (.int v0), some (.int v1), some (.int v2), some (.long s.1), none, some (.long s.2.1), none, some (.int s.2.2)] [] (176, jRf p d q, h) Q) (HE0 : ∀ x : Int64 × Int64, z = .inr x → jEx X dd jc_110 78 [some (.int v0), none, none, some (.long x.1), none, some (.long x.2), none, none] [] (176, jRf p d q, h) Q) :
    jEx X dd jc_110 72 [some (.int v0), some (.int v1), some (.int v2), some (.long v3), none, some (.long v5), none, some (.int v7)] [] (176, jRf p d q, h) Q := by
  unfold fCr_someOf_l25_j72 at K
  refine jx_inc (pc := 72) (x := v7) (p2 := [some (.int v0), some (.int v1), some (.int v2), some (.long v3), none, some (.long v5), none, some (.int (v7 + 1))]) rfl rfl (jlt rfl) rfl ?_
  refine jx_next (pc := 75) (pc' := 25) rfl rfl ?_
  obtain rfl := Option.some.inj K
  refine jx_le (pl' := [some (.int v0), some (.int v1), some (.int v2), some (.long v3), none, some (.long v5), none, some (.int (v7 + 1))]) (jle_v (jle_v (jle_v (jle_v (jle_n (jle_v (jle_n (jle_v jle_nil)))))))) ?_
  exact HL (v3, v5, v7 + 1) rfl
noncomputable def fCr_someOf_l25_j49 (v0 : Int32) (v1 : Int32) (v2 : Int32) (v3 : Int64) (v7 : Int32) (s0 : Int64) (s1 : Int64) (h : jH) : Option ((Int64 × Int64 × Int32) ⊕ (Int64 × Int64)) :=
  (if v7 < v1 then
  (if ¬ ((v7 + 1).toInt64) = 0 then
  fCr_someOf_l25_j72  v0 v1 v2 ((v3 * ((v0 - v7).toInt64)) / ((v7 + 1).toInt64)) (s0 * s1) v7 h
  else none)
  else
  fCr_someOf_l25_j72  v0 v1 v2 v3 (s0 * s1) v7 h)
theorem kCr_someOf_l25_j49 {X : jX} {dd : Nat} {p d : Nat} {q : Nat → Nat} {Q : Option Value → jS → Prop} {v0 : Int32} {v1 : Int32} {v2 : Int32} {v3 : Int64} {v7 : Int32} {s0 : Int64} {s1 : Int64} {h : jH} (hP : jOK p d q)  (hd : 0 ≤ dd) {z : (Int64 × Int64 × Int32) ⊕ (Int64 × Int64)} (K : fCr_someOf_l25_j49 v0 v1 v2 v3 v7 s0 s1 h = some z) (HL : ∀ s : Int64 × Int64 × Int32, z = .inl s → jEx X dd jc_110 25 [some (.int v0), some (.int v1), some (.int v2), some (.long s.1), none, some (.long s.2.1), none, some (.int s.2.2)] [] (176, jRf p d q, h) Q) (HE0 : ∀ x : Int64 × Int64, z = .inr x → jEx X dd jc_110 78 [some (.int v0), none, none, some (.long x.1), none, some (.long x.2), none, none] [] (176, jRf p d q, h) Q) :
    jEx X dd jc_110 49 [some (.int v0), some (.int v1), some (.int v2), some (.long v3), none, none, none, some (.int v7)] [.long s1, .long s0] (176, jRf p d q, h) Q := by
  unfold fCr_someOf_l25_j49 at K
  refine jx_next (pc := 49) (pc' := 50) rfl rfl ?_
  refine jx_stl (pc := 50) (p2 := [some (.int v0), some (.int v1), some (.int v2), some (.long v3), none, some (.long (s0 * s1)), none, some (.int v7)]) rfl (jlt rfl) rfl ?_
  refine jx_next (pc := 52) (pc' := 54) rfl rfl ?_
  refine jx_next (pc := 54) (pc' := 55) rfl rfl ?_
  refine jx_icge (pc := 55) rfl (fun hc6 => ?_) (fun hc6 => ?_)
  · replace K := (if_pos hc6).symm.trans K
    refine jx_next (pc := 58) (pc' := 59) rfl rfl ?_
    refine jx_next (pc := 59) (pc' := 60) rfl rfl ?_
    refine jx_next (pc := 60) (pc' := 62) rfl rfl ?_
    refine jx_next (pc := 62) (pc' := 63) rfl rfl ?_
    refine jx_next (pc := 63) (pc' := 64) rfl rfl ?_
    refine jx_next (pc := 64) (pc' := 65) rfl rfl ?_
    refine jx_next (pc := 65) (pc' := 67) rfl rfl ?_
    refine jx_next (pc := 67) (pc' := 68) rfl rfl ?_
    refine jx_next (pc := 68) (pc' := 69) rfl rfl ?_
    refine jx_next (pc := 69) (pc' := 70) rfl rfl ?_
    obtain ⟨hg, K⟩ := jguard K
    refine jx_ldiv (pc := 70) rfl hg ?_
    refine jx_stln (pc := 71) (p2 := [some (.int v0), some (.int v1), some (.int v2), some (.long ((v3 * ((v0 - v7).toInt64)) / ((v7 + 1).toInt64))), none, some (.long (s0 * s1)), none, some (.int v7)]) rfl (jlt rfl) rfl ?_
    refine jx_le (pl' := [some (.int v0), some (.int v1), some (.int v2), some (.long ((v3 * ((v0 - v7).toInt64)) / ((v7 + 1).toInt64))), none, some (.long (s0 * s1)), none, some (.int v7)]) (jle_v (jle_v (jle_v (jle_v (jle_n (jle_v (jle_n (jle_v jle_nil)))))))) ?_
    exact kCr_someOf_l25_j72 hP  hd K HL HE0
  · replace K := (if_neg hc6).symm.trans K
    refine jx_le (pl' := [some (.int v0), some (.int v1), some (.int v2), some (.long v3), none, some (.long (s0 * s1)), none, some (.int v7)]) (jle_v (jle_v (jle_v (jle_v (jle_n (jle_v (jle_n (jle_v jle_nil)))))))) ?_
    exact kCr_someOf_l25_j72 hP  hd K HL HE0
noncomputable def fCr_someOf_l25_b (v0 : Int32) (v1 : Int32) (v2 : Int32) (v3 : Int64) (v5 : Int64) (v7 : Int32) (h : jH) : Option ((Int64 × Int64 × Int32) ⊕ (Int64 × Int64)) :=
  (if v7 < v0 then
  (if v7 < v1 then
  fCr_someOf_l25_j49  v0 v1 v2 v3 v7 v5 v2.toInt64 h
  else
  fCr_someOf_l25_j49  v0 v1 v2 v3 v7 v5 ((100 - v2).toInt64) h)
  else
  some (.inr (v3, v5)))
noncomputable def fCr_someOf_l25 (v0 : Int32) (v1 : Int32) (v2 : Int32) (h : jH) : (Int64 × Int64 × Int32) → Option ((Int64 × Int64 × Int32) ⊕ (Int64 × Int64)) :=
  fun (s : Int64 × Int64 × Int32) => fCr_someOf_l25_b v0 v1 v2 s.1 s.2.1 s.2.2 h
theorem kCr_someOf_l25_b {X : jX} {dd : Nat} {p d : Nat} {q : Nat → Nat} {Q : Option Value → jS → Prop} {v0 : Int32} {v1 : Int32} {v2 : Int32} {v3 : Int64} {v5 : Int64} {v7 : Int32} {h : jH} (hP : jOK p d q)  (hd : 0 ≤ dd) {z : (Int64 × Int64 × Int32) ⊕ (Int64 × Int64)} (K : fCr_someOf_l25_b v0 v1 v2 v3 v5 v7 h = some z) (HL : ∀ s : Int64 × Int64 × Int32, z = .inl s → jEx X dd jc_110 25 [some (.int v0), some (.int v1), some (.int v2), some (.long s.1), none, some (.long s.2.1), none, some (.int s.2.2)] [] (176, jRf p d q, h) Q) (HE0 : ∀ x : Int64 × Int64, z = .inr x → jEx X dd jc_110 78 [some (.int v0), none, none, some (.long x.1), none, some (.long x.2), none, none] [] (176, jRf p d q, h) Q) :
    jEx X dd jc_110 25 [some (.int v0), some (.int v1), some (.int v2), some (.long v3), none, some (.long v5), none, some (.int v7)] [] (176, jRf p d q, h) Q := by
  unfold fCr_someOf_l25_b at K
  refine jx_next (pc := 25) (pc' := 27) rfl rfl ?_
  refine jx_next (pc := 27) (pc' := 28) rfl rfl ?_
  refine jx_icge (pc := 28) rfl (fun hc4 => ?_) (fun hc4 => ?_)
  · replace K := (if_pos hc4).symm.trans K
    refine jx_next (pc := 31) (pc' := 33) rfl rfl ?_
    refine jx_next (pc := 33) (pc' := 35) rfl rfl ?_
    refine jx_next (pc := 35) (pc' := 36) rfl rfl ?_
    refine jx_icge (pc := 36) rfl (fun hc5 => ?_) (fun hc5 => ?_)
    · replace K := (if_pos hc5).symm.trans K
      refine jx_next (pc := 39) (pc' := 40) rfl rfl ?_
      refine jx_next (pc := 40) (pc' := 41) rfl rfl ?_
      refine jx_next (pc := 41) (pc' := 49) rfl rfl ?_
      refine jx_le (pl' := [some (.int v0), some (.int v1), some (.int v2), some (.long v3), none, none, none, some (.int v7)]) (jle_v (jle_v (jle_v (jle_v (jle_n (jle_n (jle_n (jle_v jle_nil)))))))) ?_
      exact kCr_someOf_l25_j49 hP  hd K HL HE0
    · replace K := (if_neg hc5).symm.trans K
      refine jx_next (pc := 44) (pc' := 46) rfl rfl ?_
      refine jx_next (pc := 46) (pc' := 47) rfl rfl ?_
      refine jx_next (pc := 47) (pc' := 48) rfl rfl ?_
      refine jx_next (pc := 48) (pc' := 49) rfl rfl ?_
      refine jx_le (pl' := [some (.int v0), some (.int v1), some (.int v2), some (.long v3), none, none, none, some (.int v7)]) (jle_v (jle_v (jle_v (jle_v (jle_n (jle_n (jle_n (jle_v jle_nil)))))))) ?_
      exact kCr_someOf_l25_j49 hP  hd K HL HE0
  · replace K := (if_neg hc4).symm.trans K
    obtain rfl := Option.some.inj K
    refine jx_le (pl' := [some (.int v0), none, none, some (.long v3), none, some (.long v5), none, none]) (jle_v (jle_n (jle_n (jle_v (jle_n (jle_v (jle_n (jle_n jle_nil)))))))) ?_
    exact HE0 _ rfl
theorem kCr_someOf_l25_w {X : jX} {dd : Nat} {p d : Nat} {q : Nat → Nat} {Q : Option Value → jS → Prop} {v0 : Int32} {v1 : Int32} {v2 : Int32} {h : jH} (hP : jOK p d q)  (hd : 0 ≤ dd) {s : Int64 × Int64 × Int32} {x : Int64 × Int64} (K : jlim (fCr_someOf_l25 v0 v1 v2 h) s = some x) (HE : jEx X dd jc_110 78 [some (.int v0), none, none, some (.long x.1), none, some (.long x.2), none, none] [] (176, jRf p d q, h) Q) :
    jEx X dd jc_110 25 [some (.int v0), some (.int v1), some (.int v2), some (.long s.1), none, some (.long s.2.1), none, some (.int s.2.2)] [] (176, jRf p d q, h) Q := by
  refine jlim_ok (G := fun s : Int64 × Int64 × Int32 => jEx X dd jc_110 25 [some (.int v0), some (.int v1), some (.int v2), some (.long s.1), none, some (.long s.2.1), none, some (.int s.2.2)] [] (176, jRf p d q, h) Q) (GX := fun x : Int64 × Int64 => jEx X dd jc_110 78 [some (.int v0), none, none, some (.long x.1), none, some (.long x.2), none, none] [] (176, jRf p d q, h) Q) (fun s z hz HL HE => ?_) K HE
  exact kCr_someOf_l25_b hP  hd hz HL HE
noncomputable def fCr_someOf_l87_b (v0 : Int32) (v5 : Int64) (v7 : Int32) (h : jH) : Option ((Int64 × Int32) ⊕ (Int64)) :=
  (if v7 < 3 then
  some (.inl (v5 * 100, v7 + 1))
  else
  some (.inr v5))
noncomputable def fCr_someOf_l87 (v0 : Int32) (h : jH) : (Int64 × Int32) → Option ((Int64 × Int32) ⊕ (Int64)) :=
  fun (s : Int64 × Int32) => fCr_someOf_l87_b v0 s.1 s.2 h
theorem kCr_someOf_l87_b {X : jX} {dd : Nat} {p d : Nat} {q : Nat → Nat} {Q : Option Value → jS → Prop} {v0 : Int32} {v5 : Int64} {v7 : Int32} {h : jH} (hP : jOK p d q)  (hd : 0 ≤ dd) {z : (Int64 × Int32) ⊕ (Int64)} (K : fCr_someOf_l87_b v0 v5 v7 h = some z) (HL : ∀ s : Int64 × Int32, z = .inl s → jEx X dd jc_110 87 [some (.int v0), none, none, none, none, some (.long s.1), none, some (.int s.2)] [] (176, jRf p d q, h) Q) (HE0 : ∀ x : Int64, z = .inr x → jEx X dd jc_110 107 [some (.int v0), none, none, none, none, some (.long x), none, none] [] (176, jRf p d q, h) Q) :
    jEx X dd jc_110 87 [some (.int v0), none, none, none, none, some (.long v5), none, some (.int v7)] [] (176, jRf p d q, h) Q := by
  unfold fCr_someOf_l87_b at K
  refine jx_next (pc := 87) (pc' := 89) rfl rfl ?_
  refine jx_next (pc := 89) (pc' := 90) rfl rfl ?_
  refine jx_icge (pc := 90) rfl (fun hc8 => ?_) (fun hc8 => ?_)
  · replace K := (if_pos hc8).symm.trans K
    refine jx_next (pc := 93) (pc' := 95) rfl rfl ?_
    refine jx_next (pc := 95) (pc' := 98) rfl rfl ?_
    refine jx_next (pc := 98) (pc' := 99) rfl rfl ?_
    refine jx_stl (pc := 99) (p2 := [some (.int v0), none, none, none, none, some (.long (v5 * 100)), none, some (.int v7)]) rfl (jlt rfl) rfl ?_
    refine jx_inc (pc := 101) (x := v7) (p2 := [some (.int v0), none, none, none, none, some (.long (v5 * 100)), none, some (.int (v7 + 1))]) rfl rfl (jlt rfl) rfl ?_
    refine jx_next (pc := 104) (pc' := 87) rfl rfl ?_
    obtain rfl := Option.some.inj K
    refine jx_le (pl' := [some (.int v0), none, none, none, none, some (.long (v5 * 100)), none, some (.int (v7 + 1))]) (jle_v (jle_n (jle_n (jle_n (jle_n (jle_v (jle_n (jle_v jle_nil)))))))) ?_
    exact HL (v5 * 100, v7 + 1) rfl
  · replace K := (if_neg hc8).symm.trans K
    obtain rfl := Option.some.inj K
    refine jx_le (pl' := [some (.int v0), none, none, none, none, some (.long v5), none, none]) (jle_v (jle_n (jle_n (jle_n (jle_n (jle_v (jle_n (jle_n jle_nil)))))))) ?_
    exact HE0 _ rfl
theorem kCr_someOf_l87_w {X : jX} {dd : Nat} {p d : Nat} {q : Nat → Nat} {Q : Option Value → jS → Prop} {v0 : Int32} {h : jH} (hP : jOK p d q)  (hd : 0 ≤ dd) {s : Int64 × Int32} {x : Int64} (K : jlim (fCr_someOf_l87 v0 h) s = some x) (HE : jEx X dd jc_110 107 [some (.int v0), none, none, none, none, some (.long x), none, none] [] (176, jRf p d q, h) Q) :
    jEx X dd jc_110 87 [some (.int v0), none, none, none, none, some (.long s.1), none, some (.int s.2)] [] (176, jRf p d q, h) Q := by
  refine jlim_ok (G := fun s : Int64 × Int32 => jEx X dd jc_110 87 [some (.int v0), none, none, none, none, some (.long s.1), none, some (.int s.2)] [] (176, jRf p d q, h) Q) (GX := fun x : Int64 => jEx X dd jc_110 107 [some (.int v0), none, none, none, none, some (.long x), none, none] [] (176, jRf p d q, h) Q) (fun s z hz HL HE => ?_) K HE
  exact kCr_someOf_l87_b hP  hd hz HL HE
noncomputable def fCr_someOf_l110_b (v0 : Int32) (v5 : Int64) (v7 : Int32) (h : jH) : Option ((Int64 × Int32) ⊕ (Int64)) :=
  (if v7 < v0 then
  some (.inl (v5 / 100, v7 + 1))
  else
  some (.inr v5))
noncomputable def fCr_someOf_l110 (v0 : Int32) (h : jH) : (Int64 × Int32) → Option ((Int64 × Int32) ⊕ (Int64)) :=
  fun (s : Int64 × Int32) => fCr_someOf_l110_b v0 s.1 s.2 h
theorem kCr_someOf_l110_b {X : jX} {dd : Nat} {p d : Nat} {q : Nat → Nat} {Q : Option Value → jS → Prop} {v0 : Int32} {v5 : Int64} {v7 : Int32} {h : jH} (hP : jOK p d q)  (hd : 0 ≤ dd) {z : (Int64 × Int32) ⊕ (Int64)} (K : fCr_someOf_l110_b v0 v5 v7 h = some z) (HL : ∀ s : Int64 × Int32, z = .inl s → jEx X dd jc_110 110 [some (.int v0), none, none, none, none, some (.long s.1), none, some (.int s.2)] [] (176, jRf p d q, h) Q) (HE0 : ∀ x : Int64, z = .inr x → jEx X dd jc_110 130 [none, none, none, none, none, some (.long x), none, none] [] (176, jRf p d q, h) Q) :
    jEx X dd jc_110 110 [some (.int v0), none, none, none, none, some (.long v5), none, some (.int v7)] [] (176, jRf p d q, h) Q := by
  unfold fCr_someOf_l110_b at K
  refine jx_next (pc := 110) (pc' := 112) rfl rfl ?_
  refine jx_next (pc := 112) (pc' := 113) rfl rfl ?_
  refine jx_icge (pc := 113) rfl (fun hc10 => ?_) (fun hc10 => ?_)
  · replace K := (if_pos hc10).symm.trans K
    refine jx_next (pc := 116) (pc' := 118) rfl rfl ?_
    refine jx_next (pc := 118) (pc' := 121) rfl rfl ?_
    refine jx_ldiv (pc := 121) rfl (by decide) ?_
    refine jx_stl (pc := 122) (p2 := [some (.int v0), none, none, none, none, some (.long (v5 / 100)), none, some (.int v7)]) rfl (jlt rfl) rfl ?_
    refine jx_inc (pc := 124) (x := v7) (p2 := [some (.int v0), none, none, none, none, some (.long (v5 / 100)), none, some (.int (v7 + 1))]) rfl rfl (jlt rfl) rfl ?_
    refine jx_next (pc := 127) (pc' := 110) rfl rfl ?_
    obtain rfl := Option.some.inj K
    refine jx_le (pl' := [some (.int v0), none, none, none, none, some (.long (v5 / 100)), none, some (.int (v7 + 1))]) (jle_v (jle_n (jle_n (jle_n (jle_n (jle_v (jle_n (jle_v jle_nil)))))))) ?_
    exact HL (v5 / 100, v7 + 1) rfl
  · replace K := (if_neg hc10).symm.trans K
    obtain rfl := Option.some.inj K
    refine jx_le (pl' := [none, none, none, none, none, some (.long v5), none, none]) (jle_n (jle_n (jle_n (jle_n (jle_n (jle_v (jle_n (jle_n jle_nil)))))))) ?_
    exact HE0 _ rfl
theorem kCr_someOf_l110_w {X : jX} {dd : Nat} {p d : Nat} {q : Nat → Nat} {Q : Option Value → jS → Prop} {v0 : Int32} {h : jH} (hP : jOK p d q)  (hd : 0 ≤ dd) {s : Int64 × Int32} {x : Int64} (K : jlim (fCr_someOf_l110 v0 h) s = some x) (HE : jEx X dd jc_110 130 [none, none, none, none, none, some (.long x), none, none] [] (176, jRf p d q, h) Q) :
    jEx X dd jc_110 110 [some (.int v0), none, none, none, none, some (.long s.1), none, some (.int s.2)] [] (176, jRf p d q, h) Q := by
  refine jlim_ok (G := fun s : Int64 × Int32 => jEx X dd jc_110 110 [some (.int v0), none, none, none, none, some (.long s.1), none, some (.int s.2)] [] (176, jRf p d q, h) Q) (GX := fun x : Int64 => jEx X dd jc_110 130 [none, none, none, none, none, some (.long x), none, none] [] (176, jRf p d q, h) Q) (fun s z hz HL HE => ?_) K HE
  exact kCr_someOf_l110_b hP  hd hz HL HE
/-- AndGuest$Crowd.someOf(III)J -/
noncomputable def fCr_someOf (v0 : Int32) (v1 : Int32) (v2 : Int32) (h : jH) : Option Int64 :=
  (if v1 < 0 then
  some (0 : Int64)
  else
  (if v0 < v1 then
  some (0 : Int64)
  else
  (if 8 < v0 then
  some (0 : Int64)
  else
  (Option.bind (jlim (fCr_someOf_l25  v0 v1 v2 h) (1, 1, 0)) (fun (x7 : Int64 × Int64) =>
  (Option.bind (jlim (fCr_someOf_l87  v0 h) (x7.2 * x7.1, v0)) (fun (x9 : Int64) =>
  (Option.bind (jlim (fCr_someOf_l110  v0 h) (x9, 3)) (fun (x11 : Int64) =>
  some (x11 : Int64))))))))))
theorem kCr_someOf {X : jX} {dd : Nat} {p d : Nat} {q : Nat → Nat} {Q : Option Value → jS → Prop} {v0 : Int32} {v1 : Int32} {v2 : Int32} {h : jH} (hP : jOK p d q)  (hd : 0 ≤ dd) {z : Int64} (K : fCr_someOf v0 v1 v2 h = some z) (HQ : Q (some (.long z)) (176, jRf p d q, h)) :
    jCa X dd 110 [.int v0, .int v1, .int v2] (176, jRf p d q, h) Q := by
  unfold fCr_someOf at K
  refine jCa_of (es := jc_110) (pl := [some (.int v0), some (.int v1), some (.int v2), none, none, none, none, none]) (M := jm_110) rfl rfl rfl rfl ?_
  refine jx_next (pc := 0) (pc' := 1) rfl rfl ?_
  refine jx_iflt (pc := 1) rfl (fun hc1 => ?_) (fun hc1 => ?_)
  · replace K := (if_pos hc1).symm.trans K
    refine jx_next (pc := 15) (pc' := 16) rfl rfl ?_
    obtain rfl := Option.some.inj K
    exact jx_ret (pc := 16) rfl rfl HQ
  · replace K := (if_neg hc1).symm.trans K
    refine jx_next (pc := 4) (pc' := 5) rfl rfl ?_
    refine jx_next (pc := 5) (pc' := 6) rfl rfl ?_
    refine jx_icgt (pc := 6) rfl (fun hc2 => ?_) (fun hc2 => ?_)
    · replace K := (if_pos hc2).symm.trans K
      refine jx_next (pc := 15) (pc' := 16) rfl rfl ?_
      obtain rfl := Option.some.inj K
      exact jx_ret (pc := 16) rfl rfl HQ
    · replace K := (if_neg hc2).symm.trans K
      refine jx_next (pc := 9) (pc' := 10) rfl rfl ?_
      refine jx_next (pc := 10) (pc' := 12) rfl rfl ?_
      refine jx_icle (pc := 12) rfl (fun hc3 => ?_) (fun hc3 => ?_)
      · replace K := (if_pos hc3).symm.trans K
        refine jx_next (pc := 15) (pc' := 16) rfl rfl ?_
        obtain rfl := Option.some.inj K
        exact jx_ret (pc := 16) rfl rfl HQ
      · replace K := (if_neg hc3).symm.trans K
        refine jx_next (pc := 17) (pc' := 18) rfl rfl ?_
        refine jx_stln (pc := 18) (p2 := [some (.int v0), some (.int v1), some (.int v2), some (.long 1), none, none, none, none]) rfl (jlt rfl) rfl ?_
        refine jx_next (pc := 19) (pc' := 20) rfl rfl ?_
        refine jx_stl (pc := 20) (p2 := [some (.int v0), some (.int v1), some (.int v2), some (.long 1), none, some (.long 1), none, none]) rfl (jlt rfl) rfl ?_
        refine jx_next (pc := 22) (pc' := 23) rfl rfl ?_
        refine jx_sti (pc := 23) (p2 := [some (.int v0), some (.int v1), some (.int v2), some (.long 1), none, some (.long 1), none, some (.int 0)]) rfl (jlt rfl) rfl ?_
        refine jx_le (pl' := [some (.int v0), some (.int v1), some (.int v2), some (.long 1), none, some (.long 1), none, some (.int 0)]) (jle_v (jle_v (jle_v (jle_v (jle_n (jle_v (jle_n (jle_v jle_nil)))))))) ?_
        obtain ⟨x7, hz_x7, K⟩ := Option.bind_eq_some_iff.mp K
        refine kCr_someOf_l25_w hP  hd hz_x7 ?_
        refine jx_next (pc := 78) (pc' := 80) rfl rfl ?_
        refine jx_next (pc := 80) (pc' := 81) rfl rfl ?_
        refine jx_next (pc := 81) (pc' := 82) rfl rfl ?_
        refine jx_stl (pc := 82) (p2 := [some (.int v0), none, none, some (.long x7.1), none, some (.long (x7.2 * x7.1)), none, none]) rfl (jlt rfl) rfl ?_
        refine jx_next (pc := 84) (pc' := 85) rfl rfl ?_
        refine jx_sti (pc := 85) (p2 := [some (.int v0), none, none, some (.long x7.1), none, some (.long (x7.2 * x7.1)), none, some (.int v0)]) rfl (jlt rfl) rfl ?_
        refine jx_le (pl' := [some (.int v0), none, none, none, none, some (.long (x7.2 * x7.1)), none, some (.int v0)]) (jle_v (jle_n (jle_n (jle_n (jle_n (jle_v (jle_n (jle_v jle_nil)))))))) ?_
        obtain ⟨x9, hz_x9, K⟩ := Option.bind_eq_some_iff.mp K
        refine kCr_someOf_l87_w hP  hd hz_x9 ?_
        refine jx_next (pc := 107) (pc' := 108) rfl rfl ?_
        refine jx_sti (pc := 108) (p2 := [some (.int v0), none, none, none, none, some (.long x9), none, some (.int 3)]) rfl (jlt rfl) rfl ?_
        refine jx_le (pl' := [some (.int v0), none, none, none, none, some (.long x9), none, some (.int 3)]) (jle_v (jle_n (jle_n (jle_n (jle_n (jle_v (jle_n (jle_v jle_nil)))))))) ?_
        obtain ⟨x11, hz_x11, K⟩ := Option.bind_eq_some_iff.mp K
        refine kCr_someOf_l110_w hP  hd hz_x11 ?_
        refine jx_next (pc := 130) (pc' := 132) rfl rfl ?_
        obtain rfl := Option.some.inj K
        exact jx_ret (pc := 132) rfl rfl HQ
