/-- AndGuest$Party.lateOffence(II)I -/
noncomputable def fPy_lateOffence (R : jR) (o : Nat) (v1 : Int32) (v2 : Int32) (h : jH) : Option (Int32 × jH) :=
  (Option.bind (fPy_fillFacts R o v1 v2 h) (fun (z1 : jH) =>
  (Option.bind (fFo_valueFor R (R (R o 4) 18) (R o 2) (R (R o 4) 17) z1) (fun (z2 : Int32 × jH) =>
  some (fMt_max 0 (fMt_min 999 z2.1), z2.2)))))
theorem kPy_lateOffence {X : jX} {d : Nat} {R : jR} {Q : Option Value → jS → Prop} {o : Nat} {v1 : Int32} {v2 : Int32} {h : jH} (hT : jTy R) (ho : jcl 176 o = 8) (hd : 4 ≤ d) {z : Int32 × jH} (K : fPy_lateOffence R o v1 v2 h = some z) (HQ : Q (some (.int z.1)) (176, R, z.2)) :
    jCa X d 89 [.ref o, .int v1, .int v2] (176, R, h) Q := by
  obtain ⟨d, rfl⟩ : ∃ d9, d = d9 + 1 := ⟨d - 1, by omega⟩
  unfold fPy_lateOffence at K
  refine jCa_of (es := jc_89) (pl := [some (.ref o), some (.int v1), some (.int v2), none]) (M := jm_89) rfl rfl rfl rfl ?_
  refine jx_next (pc := 0) (pc' := 1) rfl rfl ?_
  refine jx_next (pc := 1) (pc' := 2) rfl rfl ?_
  refine jx_next (pc := 2) (pc' := 3) rfl rfl ?_
  refine jx_callv (pc := 3) (o := o) (rest := []) rfl ⟨by decide, by decide⟩ rfl ho (Nat.le_of_ble_eq_true rfl) ?_
  obtain ⟨z1, hz_z1, K⟩ := Option.bind_eq_some_iff.mp K
  refine kPy_fillFacts hT ho (by omega) hz_z1 ?_
  refine jx_next (pc := 6) (pc' := 7) rfl rfl ?_
  refine jx_getr (pc := 7) rfl ho ?_
  refine jx_getr (pc := 10) rfl (jtR hT ho (k := 4) (c := 10) rfl) ?_
  refine jx_next (pc := 13) (pc' := 14) rfl rfl ?_
  refine jx_getr (pc := 14) rfl ho ?_
  refine jx_next (pc := 17) (pc' := 18) rfl rfl ?_
  refine jx_getr (pc := 18) rfl ho ?_
  refine jx_getr (pc := 21) rfl (jtR hT ho (k := 4) (c := 10) rfl) ?_
  refine jx_callv (pc := 24) (o := (R (R o 4) 18)) (rest := []) rfl ⟨by decide, by decide⟩ rfl (jtR hT (jtR hT ho (k := 4) (c := 10) rfl) (k := 18) (c := 5) rfl) (Nat.le_of_ble_eq_true rfl) ?_
  obtain ⟨z2, hz_z2, K⟩ := Option.bind_eq_some_iff.mp K
  refine kFo_valueFor hT (jtR hT (jtR hT ho (k := 4) (c := 10) rfl) (k := 18) (c := 5) rfl) (jtR hT ho (k := 2) (c := 20) rfl) (jtR hT (jtR hT ho (k := 4) (c := 10) rfl) (k := 17) (c := 20) rfl) (by omega) hz_z2 ?_
  refine jx_stin (pc := 27) (p2 := [some (.ref o), some (.int v1), some (.int v2), some (.int z2.1)]) rfl (jlt rfl) rfl ?_
  refine jx_next (pc := 28) (pc' := 29) rfl rfl ?_
  refine jx_next (pc := 29) (pc' := 32) rfl rfl ?_
  refine jx_next (pc := 32) (pc' := 33) rfl rfl ?_
  refine jx_calls (pc := 33) rfl (Nat.le_of_ble_eq_true rfl) (Nat.le_of_ble_eq_true rfl) ?_
  refine kMt_min  (by omega) rfl ?_
  refine jx_calls (pc := 36) rfl (Nat.le_of_ble_eq_true rfl) (Nat.le_of_ble_eq_true rfl) ?_
  refine kMt_max  (by omega) rfl ?_
  obtain rfl := Option.some.inj K
  exact jx_iret (pc := 39) rfl HQ
noncomputable def fPy_weighCards_l2_j82 (R : jR) (o : Nat) (v1 : Int32) (s0 : Nat) (s1 : Int32) (s2 : Int32) (h : jH) : Option ((Int32 × jH) ⊕ (jH)) :=
  (if jin s1 (jsh s0).2 then
  some (.inl (v1 + 1, jhI h s0 s1.toNatClampNeg s2))
  else none)
theorem kPy_weighCards_l2_j82 {X : jX} {d : Nat} {R : jR} {Q : Option Value → jS → Prop} {o : Nat} {v1 : Int32} {s0 : Nat} {s1 : Int32} {s2 : Int32} {h : jH} (hT : jTy R) (ho : jcl 176 o = 8) (hs0 : jcl 176 s0 = 20) (hd : 5 ≤ (d + 1)) {z : (Int32 × jH) ⊕ (jH)} (K : fPy_weighCards_l2_j82 R o v1 s0 s1 s2 h = some z) (HL : ∀ s : Int32 × jH, z = .inl s → jEx X (d + 1) jc_87 2 [some (.ref o), some (.int s.1), none] [] (176, R, s.2) Q) (HE0 : ∀ x : jH, z = .inr x → jEx X (d + 1) jc_87 89 [none, none, none] [] (176, R, x) Q) :
    jEx X (d + 1) jc_87 82 [some (.ref o), some (.int v1), none] [.int s2, .int s1, .ref s0] (176, R, h) Q := by
  unfold fPy_weighCards_l2_j82 at K
  obtain ⟨hg8, K⟩ := jguard K
  refine jx_iast (pc := 82) rfl hs0 hg8 ?_
  refine jx_inc (pc := 83) (x := v1) (p2 := [some (.ref o), some (.int (v1 + 1)), none]) rfl rfl (jlt rfl) rfl ?_
  refine jx_next (pc := 86) (pc' := 2) rfl rfl ?_
  obtain rfl := Option.some.inj K
  refine jx_le (pl' := [some (.ref o), some (.int (v1 + 1)), none]) (jle_v (jle_v (jle_n jle_nil))) ?_
  exact HL _ rfl
noncomputable def fPy_weighCards_l2_j81 (R : jR) (o : Nat) (v1 : Int32) (s0 : Nat) (s1 : Int32) (h : jH) : Option ((Int32 × jH) ⊕ (jH)) :=
  fPy_weighCards_l2_j82 R o v1 s0 s1 0 h
theorem kPy_weighCards_l2_j81 {X : jX} {d : Nat} {R : jR} {Q : Option Value → jS → Prop} {o : Nat} {v1 : Int32} {s0 : Nat} {s1 : Int32} {h : jH} (hT : jTy R) (ho : jcl 176 o = 8) (hs0 : jcl 176 s0 = 20) (hd : 5 ≤ (d + 1)) {z : (Int32 × jH) ⊕ (jH)} (K : fPy_weighCards_l2_j81 R o v1 s0 s1 h = some z) (HL : ∀ s : Int32 × jH, z = .inl s → jEx X (d + 1) jc_87 2 [some (.ref o), some (.int s.1), none] [] (176, R, s.2) Q) (HE0 : ∀ x : jH, z = .inr x → jEx X (d + 1) jc_87 89 [none, none, none] [] (176, R, x) Q) :
    jEx X (d + 1) jc_87 81 [some (.ref o), some (.int v1), none] [.int s1, .ref s0] (176, R, h) Q := by
  unfold fPy_weighCards_l2_j81 at K
  refine jx_next (pc := 81) (pc' := 82) rfl rfl ?_
  refine jx_le (pl' := [some (.ref o), some (.int v1), none]) (jle_v (jle_v (jle_n jle_nil))) ?_
  exact kPy_weighCards_l2_j82 hT ho hs0 hd K HL HE0
noncomputable def fPy_weighCards_l2_j49 (R : jR) (o : Nat) (v1 : Int32) (s0 : Int32) (h : jH) : Option ((Int32 × jH) ⊕ (jH)) :=
  (if 0 < s0 then
  (if (fFo_isEmpty R (R (R o 4) 18) h) = 0 then
  (Option.bind (fPy_lateOffence R o v1 s0 h) (fun (z7 : Int32 × jH) =>
  fPy_weighCards_l2_j82 R o v1 (R o 3) v1 z7.1 z7.2))
  else
  fPy_weighCards_l2_j81 R o v1 (R o 3) v1 h)
  else
  fPy_weighCards_l2_j81 R o v1 (R o 3) v1 h)
theorem kPy_weighCards_l2_j49 {X : jX} {d : Nat} {R : jR} {Q : Option Value → jS → Prop} {o : Nat} {v1 : Int32} {s0 : Int32} {h : jH} (hT : jTy R) (ho : jcl 176 o = 8) (hd : 5 ≤ (d + 1)) {z : (Int32 × jH) ⊕ (jH)} (K : fPy_weighCards_l2_j49 R o v1 s0 h = some z) (HL : ∀ s : Int32 × jH, z = .inl s → jEx X (d + 1) jc_87 2 [some (.ref o), some (.int s.1), none] [] (176, R, s.2) Q) (HE0 : ∀ x : jH, z = .inr x → jEx X (d + 1) jc_87 89 [none, none, none] [] (176, R, x) Q) :
    jEx X (d + 1) jc_87 49 [some (.ref o), some (.int v1), none] [.int s0] (176, R, h) Q := by
  unfold fPy_weighCards_l2_j49 at K
  refine jx_stin (pc := 49) (p2 := [some (.ref o), some (.int v1), some (.int s0)]) rfl (jlt rfl) rfl ?_
  refine jx_next (pc := 50) (pc' := 51) rfl rfl ?_
  refine jx_getr (pc := 51) rfl ho ?_
  refine jx_next (pc := 54) (pc' := 55) rfl rfl ?_
  refine jx_next (pc := 55) (pc' := 56) rfl rfl ?_
  refine jx_ifle (pc := 56) rfl (fun hc5 => ?_) (fun hc5 => ?_)
  · replace K := (if_pos hc5).symm.trans K
    refine jx_next (pc := 59) (pc' := 60) rfl rfl ?_
    refine jx_getr (pc := 60) rfl ho ?_
    refine jx_getr (pc := 63) rfl (jtR hT ho (k := 4) (c := 10) rfl) ?_
    refine jx_callv (pc := 66) (o := (R (R o 4) 18)) (rest := [.int v1, .ref (R o 3)]) rfl ⟨by decide, by decide⟩ rfl (jtR hT (jtR hT ho (k := 4) (c := 10) rfl) (k := 18) (c := 5) rfl) (Nat.le_of_ble_eq_true rfl) ?_
    refine kFo_isEmpty hT (jtR hT (jtR hT ho (k := 4) (c := 10) rfl) (k := 18) (c := 5) rfl) (by omega) rfl ?_
    refine jx_ifne (pc := 69) rfl (fun hc6 => ?_) (fun hc6 => ?_)
    · replace K := (if_pos hc6).symm.trans K
      refine jx_next (pc := 72) (pc' := 73) rfl rfl ?_
      refine jx_next (pc := 73) (pc' := 74) rfl rfl ?_
      refine jx_next (pc := 74) (pc' := 75) rfl rfl ?_
      refine jx_callv (pc := 75) (o := o) (rest := [.int v1, .ref (R o 3)]) rfl ⟨by decide, by decide⟩ rfl ho (Nat.le_of_ble_eq_true rfl) ?_
      obtain ⟨z7, hz_z7, K⟩ := Option.bind_eq_some_iff.mp K
      refine kPy_lateOffence hT ho (by omega) hz_z7 ?_
      refine jx_next (pc := 78) (pc' := 82) rfl rfl ?_
      refine jx_le (pl' := [some (.ref o), some (.int v1), none]) (jle_v (jle_v (jle_n jle_nil))) ?_
      exact kPy_weighCards_l2_j82 hT ho (jtR hT ho (k := 3) (c := 20) rfl) hd K HL HE0
    · replace K := (if_neg hc6).symm.trans K
      refine jx_le (pl' := [some (.ref o), some (.int v1), none]) (jle_v (jle_v (jle_n jle_nil))) ?_
      exact kPy_weighCards_l2_j81 hT ho (jtR hT ho (k := 3) (c := 20) rfl) hd K HL HE0
  · replace K := (if_neg hc5).symm.trans K
    refine jx_le (pl' := [some (.ref o), some (.int v1), none]) (jle_v (jle_v (jle_n jle_nil))) ?_
    exact kPy_weighCards_l2_j81 hT ho (jtR hT ho (k := 3) (c := 20) rfl) hd K HL HE0
noncomputable def fPy_weighCards_l2_b (R : jR) (o : Nat) (v1 : Int32) (h : jH) : Option ((Int32 × jH) ⊕ (jH)) :=
  (if v1 < (h.1 (R o 4) 0) then
  (if v1 < 8 then
  (Option.bind (fSd_isAsked R (R o 0) v1 h) (fun (z3 : Int32) =>
  (if z3 = 0 then
  fPy_weighCards_l2_j49 R o v1 (fSd_behindNow R (R o 0) h) h
  else
  (if jin v1 (jsh (R (R o 0) 3)).2 then
  fPy_weighCards_l2_j49 R o v1 (h.1 (R (R o 0) 3) v1.toNatClampNeg) h
  else none))))
  else
  some (.inr h))
  else
  some (.inr h))
noncomputable def fPy_weighCards_l2 (R : jR) (o : Nat) : (Int32 × jH) → Option ((Int32 × jH) ⊕ (jH)) :=
  fun (s : Int32 × jH) => fPy_weighCards_l2_b R o s.1 s.2
theorem kPy_weighCards_l2_b {X : jX} {d : Nat} {R : jR} {Q : Option Value → jS → Prop} {o : Nat} {v1 : Int32} {h : jH} (hT : jTy R) (ho : jcl 176 o = 8) (hd : 5 ≤ (d + 1)) {z : (Int32 × jH) ⊕ (jH)} (K : fPy_weighCards_l2_b R o v1 h = some z) (HL : ∀ s : Int32 × jH, z = .inl s → jEx X (d + 1) jc_87 2 [some (.ref o), some (.int s.1), none] [] (176, R, s.2) Q) (HE0 : ∀ x : jH, z = .inr x → jEx X (d + 1) jc_87 89 [none, none, none] [] (176, R, x) Q) :
    jEx X (d + 1) jc_87 2 [some (.ref o), some (.int v1), none] [] (176, R, h) Q := by
  unfold fPy_weighCards_l2_b at K
  refine jx_next (pc := 2) (pc' := 3) rfl rfl ?_
  refine jx_next (pc := 3) (pc' := 4) rfl rfl ?_
  refine jx_getr (pc := 4) rfl ho ?_
  refine jx_geti (pc := 7) rfl (jtR hT ho (k := 4) (c := 10) rfl) ?_
  refine jx_icge (pc := 10) rfl (fun hc1 => ?_) (fun hc1 => ?_)
  · replace K := (if_pos hc1).symm.trans K
    refine jx_next (pc := 13) (pc' := 14) rfl rfl ?_
    refine jx_next (pc := 14) (pc' := 16) rfl rfl ?_
    refine jx_icge (pc := 16) rfl (fun hc2 => ?_) (fun hc2 => ?_)
    · replace K := (if_pos hc2).symm.trans K
      refine jx_next (pc := 19) (pc' := 20) rfl rfl ?_
      refine jx_getr (pc := 20) rfl ho ?_
      refine jx_next (pc := 23) (pc' := 24) rfl rfl ?_
      refine jx_callv (pc := 24) (o := (R o 0)) (rest := []) rfl ⟨by decide, by decide⟩ rfl (jtR hT ho (k := 0) (c := 6) rfl) (Nat.le_of_ble_eq_true rfl) ?_
      obtain ⟨z3, hz_z3, K⟩ := Option.bind_eq_some_iff.mp K
      refine kSd_isAsked hT (jtR hT ho (k := 0) (c := 6) rfl) (by omega) hz_z3 ?_
      refine jx_ifeq (pc := 27) rfl (fun hc4 => ?_) (fun hc4 => ?_)
      · replace K := (if_pos hc4).symm.trans K
        refine jx_next (pc := 42) (pc' := 43) rfl rfl ?_
        refine jx_getr (pc := 43) rfl ho ?_
        refine jx_callv (pc := 46) (o := (R o 0)) (rest := []) rfl ⟨by decide, by decide⟩ rfl (jtR hT ho (k := 0) (c := 6) rfl) (Nat.le_of_ble_eq_true rfl) ?_
        refine kSd_behindNow hT (jtR hT ho (k := 0) (c := 6) rfl) (by omega) rfl ?_
        refine jx_le (pl' := [some (.ref o), some (.int v1), none]) (jle_v (jle_v (jle_n jle_nil))) ?_
        exact kPy_weighCards_l2_j49 hT ho hd K HL HE0
      · replace K := (if_neg hc4).symm.trans K
        refine jx_next (pc := 30) (pc' := 31) rfl rfl ?_
        refine jx_getr (pc := 31) rfl ho ?_
        refine jx_getr (pc := 34) rfl (jtR hT ho (k := 0) (c := 6) rfl) ?_
        refine jx_next (pc := 37) (pc' := 38) rfl rfl ?_
        obtain ⟨hg9, K⟩ := jguard K
        refine jx_iald (pc := 38) rfl (jtR hT (jtR hT ho (k := 0) (c := 6) rfl) (k := 3) (c := 20) rfl) hg9 ?_
        refine jx_next (pc := 39) (pc' := 49) rfl rfl ?_
        refine jx_le (pl' := [some (.ref o), some (.int v1), none]) (jle_v (jle_v (jle_n jle_nil))) ?_
        exact kPy_weighCards_l2_j49 hT ho hd K HL HE0
    · replace K := (if_neg hc2).symm.trans K
      obtain rfl := Option.some.inj K
      refine jx_le (pl' := [none, none, none]) (jle_n (jle_n (jle_n jle_nil))) ?_
      exact HE0 _ rfl
  · replace K := (if_neg hc1).symm.trans K
    obtain rfl := Option.some.inj K
    refine jx_le (pl' := [none, none, none]) (jle_n (jle_n (jle_n jle_nil))) ?_
    exact HE0 _ rfl
theorem kPy_weighCards_l2_w {X : jX} {d : Nat} {R : jR} {Q : Option Value → jS → Prop} {o : Nat} (hT : jTy R) (ho : jcl 176 o = 8) (hd : 5 ≤ (d + 1)) {s : Int32 × jH} {x : jH} (K : jlim (fPy_weighCards_l2 R o) s = some x) (HE : jEx X (d + 1) jc_87 89 [none, none, none] [] (176, R, x) Q) :
    jEx X (d + 1) jc_87 2 [some (.ref o), some (.int s.1), none] [] (176, R, s.2) Q := by
  refine jlim_ok (G := fun s : Int32 × jH => jEx X (d + 1) jc_87 2 [some (.ref o), some (.int s.1), none] [] (176, R, s.2) Q) (GX := fun x : jH => jEx X (d + 1) jc_87 89 [none, none, none] [] (176, R, x) Q) (fun s z hz HL HE => ?_) K HE
  exact kPy_weighCards_l2_b hT ho hd hz HL HE
/-- AndGuest$Party.weighCards()V -/
noncomputable def fPy_weighCards (R : jR) (o : Nat) (h : jH) : Option jH :=
  (Option.bind (jlim (fPy_weighCards_l2 R o) (0, h)) (fun (x10 : jH) =>
  some x10))
theorem kPy_weighCards {X : jX} {d : Nat} {R : jR} {Q : Option Value → jS → Prop} {o : Nat} {h : jH} (hT : jTy R) (ho : jcl 176 o = 8) (hd : 5 ≤ d) {z : jH} (K : fPy_weighCards R o h = some z) (HQ : Q none (176, R, z)) :
    jCa X d 87 [.ref o] (176, R, h) Q := by
  obtain ⟨d, rfl⟩ : ∃ d9, d = d9 + 1 := ⟨d - 1, by omega⟩
  unfold fPy_weighCards at K
  refine jCa_of (es := jc_87) (pl := [some (.ref o), none, none]) (M := jm_87) rfl rfl rfl rfl ?_
  refine jx_next (pc := 0) (pc' := 1) rfl rfl ?_
  refine jx_stin (pc := 1) (p2 := [some (.ref o), some (.int 0), none]) rfl (jlt rfl) rfl ?_
  refine jx_le (pl' := [some (.ref o), some (.int 0), none]) (jle_v (jle_v (jle_n jle_nil))) ?_
  obtain ⟨x10, hz_x10, K⟩ := Option.bind_eq_some_iff.mp K
  refine kPy_weighCards_l2_w hT ho hd hz_x10 ?_
  obtain rfl := Option.some.inj K
  exact jx_ret (pc := 89) rfl rfl HQ
noncomputable def fPn_slightIfAsked_j15 (R : jR) (o : Nat) (v1 : Int32) (v2 : Int32) (s0 : Int32) (h : jH) : Option Int32 :=
  (if s0 = 0 then
  some (0 : Int32)
  else
  (if jin v1 (jsh (R o 16)).2 then
  (if ((h.1 (R o 16) v1.toNatClampNeg) &&& v2) = 0 then
  some (0 : Int32)
  else
  (if jin v1 (jsh (R o 14)).2 then
  some (h.1 (R o 14) v1.toNatClampNeg : Int32)
  else none))
  else none))
theorem kPn_slightIfAsked_j15 {X : jX} {d : Nat} {R : jR} {Q : Option Value → jS → Prop} {o : Nat} {v1 : Int32} {v2 : Int32} {s0 : Int32} {h : jH} (hT : jTy R) (ho : jcl 176 o = 10) (hd : 0 ≤ d) {z : Int32} (K : fPn_slightIfAsked_j15 R o v1 v2 s0 h = some z) (HQ : Q (some (.int z)) (176, R, h)) :
    jEx X d jc_100 15 [some (.ref o), some (.int v1), some (.int v2), none] [.int s0] (176, R, h) Q := by
  unfold fPn_slightIfAsked_j15 at K
  refine jx_stin (pc := 15) (p2 := [some (.ref o), some (.int v1), some (.int v2), some (.int s0)]) rfl (jlt rfl) rfl ?_
  refine jx_next (pc := 16) (pc' := 17) rfl rfl ?_
  refine jx_ifeq (pc := 17) rfl (fun hc2 => ?_) (fun hc2 => ?_)
  · replace K := (if_pos hc2).symm.trans K
    refine jx_next (pc := 40) (pc' := 41) rfl rfl ?_
    obtain rfl := Option.some.inj K
    exact jx_iret (pc := 41) rfl HQ
  · replace K := (if_neg hc2).symm.trans K
    refine jx_next (pc := 20) (pc' := 21) rfl rfl ?_
    refine jx_getr (pc := 21) rfl ho ?_
    refine jx_next (pc := 24) (pc' := 25) rfl rfl ?_
    obtain ⟨hg3, K⟩ := jguard K
    refine jx_iald (pc := 25) rfl (jtR hT ho (k := 16) (c := 20) rfl) hg3 ?_
    refine jx_next (pc := 26) (pc' := 27) rfl rfl ?_
    refine jx_next (pc := 27) (pc' := 28) rfl rfl ?_
    refine jx_ifeq (pc := 28) rfl (fun hc4 => ?_) (fun hc4 => ?_)
    · replace K := (if_pos hc4).symm.trans K
      refine jx_next (pc := 40) (pc' := 41) rfl rfl ?_
      obtain rfl := Option.some.inj K
      exact jx_iret (pc := 41) rfl HQ
    · replace K := (if_neg hc4).symm.trans K
      refine jx_next (pc := 31) (pc' := 32) rfl rfl ?_
      refine jx_getr (pc := 32) rfl ho ?_
      refine jx_next (pc := 35) (pc' := 36) rfl rfl ?_
      obtain ⟨hg5, K⟩ := jguard K
      refine jx_iald (pc := 36) rfl (jtR hT ho (k := 14) (c := 20) rfl) hg5 ?_
      refine jx_next (pc := 37) (pc' := 41) rfl rfl ?_
      obtain rfl := Option.some.inj K
      exact jx_iret (pc := 41) rfl HQ
noncomputable def fPn_slightIfAsked_j14 (R : jR) (o : Nat) (v1 : Int32) (v2 : Int32) (h : jH) : Option Int32 :=
  fPn_slightIfAsked_j15 R o v1 v2 0 h
theorem kPn_slightIfAsked_j14 {X : jX} {d : Nat} {R : jR} {Q : Option Value → jS → Prop} {o : Nat} {v1 : Int32} {v2 : Int32} {h : jH} (hT : jTy R) (ho : jcl 176 o = 10) (hd : 0 ≤ d) {z : Int32} (K : fPn_slightIfAsked_j14 R o v1 v2 h = some z) (HQ : Q (some (.int z)) (176, R, h)) :
    jEx X d jc_100 14 [some (.ref o), some (.int v1), some (.int v2), none] [] (176, R, h) Q := by
  unfold fPn_slightIfAsked_j14 at K
  refine jx_next (pc := 14) (pc' := 15) rfl rfl ?_
  refine jx_le (pl' := [some (.ref o), some (.int v1), some (.int v2), none]) (jle_v (jle_v (jle_v (jle_n jle_nil)))) ?_
  exact kPn_slightIfAsked_j15 hT ho hd K HQ
/-- AndGuest$Plan.slightIfAsked(II)I -/
noncomputable def fPn_slightIfAsked (R : jR) (o : Nat) (v1 : Int32) (v2 : Int32) (h : jH) : Option Int32 :=
  (if v1 < 0 then
  fPn_slightIfAsked_j14 R o v1 v2 h
  else
  (if v1 < 8 then
  fPn_slightIfAsked_j15 R o v1 v2 1 h
  else
  fPn_slightIfAsked_j14 R o v1 v2 h))
theorem kPn_slightIfAsked {X : jX} {d : Nat} {R : jR} {Q : Option Value → jS → Prop} {o : Nat} {v1 : Int32} {v2 : Int32} {h : jH} (hT : jTy R) (ho : jcl 176 o = 10) (hd : 0 ≤ d) {z : Int32} (K : fPn_slightIfAsked R o v1 v2 h = some z) (HQ : Q (some (.int z)) (176, R, h)) :
    jCa X d 100 [.ref o, .int v1, .int v2] (176, R, h) Q := by
  unfold fPn_slightIfAsked at K
  refine jCa_of (es := jc_100) (pl := [some (.ref o), some (.int v1), some (.int v2), none]) (M := jm_100) rfl rfl rfl rfl ?_
  refine jx_next (pc := 0) (pc' := 1) rfl rfl ?_
  refine jx_iflt (pc := 1) rfl (fun hc1 => ?_) (fun hc1 => ?_)
  · replace K := (if_pos hc1).symm.trans K
    refine jx_le (pl' := [some (.ref o), some (.int v1), some (.int v2), none]) (jle_v (jle_v (jle_v (jle_n jle_nil)))) ?_
    exact kPn_slightIfAsked_j14 hT ho hd K HQ
  · replace K := (if_neg hc1).symm.trans K
    refine jx_next (pc := 4) (pc' := 5) rfl rfl ?_
    refine jx_next (pc := 5) (pc' := 7) rfl rfl ?_
    refine jx_icge (pc := 7) rfl (fun hc6 => ?_) (fun hc6 => ?_)
    · replace K := (if_pos hc6).symm.trans K
      refine jx_next (pc := 10) (pc' := 11) rfl rfl ?_
      refine jx_next (pc := 11) (pc' := 15) rfl rfl ?_
      refine jx_le (pl' := [some (.ref o), some (.int v1), some (.int v2), none]) (jle_v (jle_v (jle_v (jle_n jle_nil)))) ?_
      exact kPn_slightIfAsked_j15 hT ho hd K HQ
    · replace K := (if_neg hc6).symm.trans K
      refine jx_le (pl' := [some (.ref o), some (.int v1), some (.int v2), none]) (jle_v (jle_v (jle_v (jle_n jle_nil)))) ?_
      exact kPn_slightIfAsked_j14 hT ho hd K HQ
noncomputable def fPy_offenceOf_j26 (R : jR) (o : Nat) (v1 : Int32) (v2 : Int32) (s0 : Int32) (h : jH) : Option Int32 :=
  (if s0 = 0 then
  (Option.bind (fPn_slightIfAsked R (R o 4) v1 v2 h) (fun (z5 : Int32) =>
  some (z5 : Int32)))
  else
  (if jin v1 (jsh (R o 3)).2 then
  some (h.1 (R o 3) v1.toNatClampNeg : Int32)
  else none))
theorem kPy_offenceOf_j26 {X : jX} {d : Nat} {R : jR} {Q : Option Value → jS → Prop} {o : Nat} {v1 : Int32} {v2 : Int32} {s0 : Int32} {h : jH} (hT : jTy R) (ho : jcl 176 o = 8) (hd : 1 ≤ (d + 1)) {z : Int32} (K : fPy_offenceOf_j26 R o v1 v2 s0 h = some z) (HQ : Q (some (.int z)) (176, R, h)) :
    jEx X (d + 1) jc_99 26 [some (.ref o), some (.int v1), some (.int v2), none] [.int s0] (176, R, h) Q := by
  unfold fPy_offenceOf_j26 at K
  refine jx_stin (pc := 26) (p2 := [some (.ref o), some (.int v1), some (.int v2), some (.int s0)]) rfl (jlt rfl) rfl ?_
  refine jx_next (pc := 27) (pc' := 28) rfl rfl ?_
  refine jx_ifeq (pc := 28) rfl (fun hc4 => ?_) (fun hc4 => ?_)
  · replace K := (if_pos hc4).symm.trans K
    refine jx_next (pc := 40) (pc' := 41) rfl rfl ?_
    refine jx_getr (pc := 41) rfl ho ?_
    refine jx_next (pc := 44) (pc' := 45) rfl rfl ?_
    refine jx_next (pc := 45) (pc' := 46) rfl rfl ?_
    refine jx_callv (pc := 46) (o := (R o 4)) (rest := []) rfl ⟨by decide, by decide⟩ rfl (jtR hT ho (k := 4) (c := 10) rfl) (Nat.le_of_ble_eq_true rfl) ?_
    obtain ⟨z5, hz_z5, K⟩ := Option.bind_eq_some_iff.mp K
    refine kPn_slightIfAsked hT (jtR hT ho (k := 4) (c := 10) rfl) (by omega) hz_z5 ?_
    obtain rfl := Option.some.inj K
    exact jx_iret (pc := 49) rfl HQ
  · replace K := (if_neg hc4).symm.trans K
    refine jx_next (pc := 31) (pc' := 32) rfl rfl ?_
    refine jx_getr (pc := 32) rfl ho ?_
    refine jx_next (pc := 35) (pc' := 36) rfl rfl ?_
    obtain ⟨hg6, K⟩ := jguard K
    refine jx_iald (pc := 36) rfl (jtR hT ho (k := 3) (c := 20) rfl) hg6 ?_
    refine jx_next (pc := 37) (pc' := 49) rfl rfl ?_
    obtain rfl := Option.some.inj K
    exact jx_iret (pc := 49) rfl HQ
/-- AndGuest$Party.offenceOf(II)I -/
noncomputable def fPy_offenceOf (R : jR) (o : Nat) (v1 : Int32) (v2 : Int32) (h : jH) : Option Int32 :=
  (if v1 < 0 then
  some (0 : Int32)
  else
  (if v1 < 8 then
  (if ((v2 >>> (v1 &&& 31)) &&& 1) = 1 then
  fPy_offenceOf_j26 R o v1 v2 1 h
  else
  fPy_offenceOf_j26 R o v1 v2 0 h)
  else
  some (0 : Int32)))
theorem kPy_offenceOf {X : jX} {d : Nat} {R : jR} {Q : Option Value → jS → Prop} {o : Nat} {v1 : Int32} {v2 : Int32} {h : jH} (hT : jTy R) (ho : jcl 176 o = 8) (hd : 1 ≤ d) {z : Int32} (K : fPy_offenceOf R o v1 v2 h = some z) (HQ : Q (some (.int z)) (176, R, h)) :
    jCa X d 99 [.ref o, .int v1, .int v2] (176, R, h) Q := by
  obtain ⟨d, rfl⟩ : ∃ d9, d = d9 + 1 := ⟨d - 1, by omega⟩
  unfold fPy_offenceOf at K
  refine jCa_of (es := jc_99) (pl := [some (.ref o), some (.int v1), some (.int v2), none]) (M := jm_99) rfl rfl rfl rfl ?_
  refine jx_next (pc := 0) (pc' := 1) rfl rfl ?_
  refine jx_iflt (pc := 1) rfl (fun hc1 => ?_) (fun hc1 => ?_)
  · replace K := (if_pos hc1).symm.trans K
    refine jx_next (pc := 10) (pc' := 11) rfl rfl ?_
    obtain rfl := Option.some.inj K
    exact jx_iret (pc := 11) rfl HQ
  · replace K := (if_neg hc1).symm.trans K
    refine jx_next (pc := 4) (pc' := 5) rfl rfl ?_
    refine jx_next (pc := 5) (pc' := 7) rfl rfl ?_
    refine jx_iclt (pc := 7) rfl (fun hc2 => ?_) (fun hc2 => ?_)
    · replace K := (if_pos hc2).symm.trans K
      refine jx_next (pc := 12) (pc' := 13) rfl rfl ?_
      refine jx_next (pc := 13) (pc' := 14) rfl rfl ?_
      refine jx_next (pc := 14) (pc' := 15) rfl rfl ?_
      refine jx_next (pc := 15) (pc' := 16) rfl rfl ?_
      refine jx_next (pc := 16) (pc' := 17) rfl rfl ?_
      refine jx_next (pc := 17) (pc' := 18) rfl rfl ?_
      refine jx_icne (pc := 18) rfl (fun hc3 => ?_) (fun hc3 => ?_)
      · replace K := (if_pos hc3).symm.trans K
        refine jx_next (pc := 21) (pc' := 22) rfl rfl ?_
        refine jx_next (pc := 22) (pc' := 26) rfl rfl ?_
        refine jx_le (pl' := [some (.ref o), some (.int v1), some (.int v2), none]) (jle_v (jle_v (jle_v (jle_n jle_nil)))) ?_
        exact kPy_offenceOf_j26 hT ho hd K HQ
      · replace K := (if_neg hc3).symm.trans K
        refine jx_next (pc := 25) (pc' := 26) rfl rfl ?_
        refine jx_le (pl' := [some (.ref o), some (.int v1), some (.int v2), none]) (jle_v (jle_v (jle_v (jle_n jle_nil)))) ?_
        exact kPy_offenceOf_j26 hT ho hd K HQ
    · replace K := (if_neg hc2).symm.trans K
      refine jx_next (pc := 10) (pc' := 11) rfl rfl ?_
      obtain rfl := Option.some.inj K
      exact jx_iret (pc := 11) rfl HQ
/-- AndGuest$Party.offenceNow(I)I -/
noncomputable def fPy_offenceNow (R : jR) (o : Nat) (v1 : Int32) (h : jH) : Option (Int32 × jH) :=
  (Option.bind (fPy_weighCards R o h) (fun (z1 : jH) =>
  (Option.bind (fSd_askedSet R (R o 0) z1) (fun (z2 : Int32) =>
  (Option.bind (fPy_offenceOf R o v1 z2 z1) (fun (z3 : Int32) =>
  some (z3, z1)))))))
theorem kPy_offenceNow {X : jX} {d : Nat} {R : jR} {Q : Option Value → jS → Prop} {o : Nat} {v1 : Int32} {h : jH} (hT : jTy R) (ho : jcl 176 o = 8) (hd : 6 ≤ d) {z : Int32 × jH} (K : fPy_offenceNow R o v1 h = some z) (HQ : Q (some (.int z.1)) (176, R, z.2)) :
    jCa X d 86 [.ref o, .int v1] (176, R, h) Q := by
  obtain ⟨d, rfl⟩ : ∃ d9, d = d9 + 1 := ⟨d - 1, by omega⟩
  unfold fPy_offenceNow at K
  refine jCa_of (es := jc_86) (pl := [some (.ref o), some (.int v1)]) (M := jm_86) rfl rfl rfl rfl ?_
  refine jx_next (pc := 0) (pc' := 1) rfl rfl ?_
  refine jx_callv (pc := 1) (o := o) (rest := []) rfl ⟨by decide, by decide⟩ rfl ho (Nat.le_of_ble_eq_true rfl) ?_
  obtain ⟨z1, hz_z1, K⟩ := Option.bind_eq_some_iff.mp K
  refine kPy_weighCards hT ho (by omega) hz_z1 ?_
  refine jx_next (pc := 4) (pc' := 5) rfl rfl ?_
  refine jx_next (pc := 5) (pc' := 6) rfl rfl ?_
  refine jx_next (pc := 6) (pc' := 7) rfl rfl ?_
  refine jx_getr (pc := 7) rfl ho ?_
  refine jx_callv (pc := 10) (o := (R o 0)) (rest := [.int v1, .ref o]) rfl ⟨by decide, by decide⟩ rfl (jtR hT ho (k := 0) (c := 6) rfl) (Nat.le_of_ble_eq_true rfl) ?_
  obtain ⟨z2, hz_z2, K⟩ := Option.bind_eq_some_iff.mp K
  refine kSd_askedSet hT (jtR hT ho (k := 0) (c := 6) rfl) (by omega) hz_z2 ?_
  refine jx_callv (pc := 13) (o := o) (rest := []) rfl ⟨by decide, by decide⟩ rfl ho (Nat.le_of_ble_eq_true rfl) ?_
  obtain ⟨z3, hz_z3, K⟩ := Option.bind_eq_some_iff.mp K
  refine kPy_offenceOf hT ho (by omega) hz_z3 ?_
  obtain rfl := Option.some.inj K
  exact jx_iret (pc := 16) rfl HQ
/-- AndGuest.guest(II)I -/
noncomputable def fA_guest (R : jR) (o : Nat) (v1 : Int32) (v2 : Int32) (h : jH) : Option (Int32 × jH) :=
  (if (fA_isGuest R o v1 h) = 0 then
  some ((-1), h)
  else
  (if v2 = 0 then
  (if jin v1 (jsh (R (fPy_plan R (R o 8) h) 11)).2 then
  some (h.1 (R (fPy_plan R (R o 8) h) 11) v1.toNatClampNeg, h)
  else none)
  else
  (if v2 = 1 then
  (if jin v1 (jsh (R (fPy_plan R (R o 8) h) 12)).2 then
  some (h.1 (R (fPy_plan R (R o 8) h) 12) v1.toNatClampNeg, h)
  else none)
  else
  (if v2 = 2 then
  (if jin v1 (jsh (R (fPy_plan R (R o 8) h) 13)).2 then
  some (h.1 (R (fPy_plan R (R o 8) h) 13) v1.toNatClampNeg, h)
  else none)
  else
  (if v2 = 3 then
  (if jin v1 (jsh (R (fPy_plan R (R o 8) h) 14)).2 then
  some (h.1 (R (fPy_plan R (R o 8) h) 14) v1.toNatClampNeg, h)
  else none)
  else
  (if v2 = 4 then
  (if jin v1 (jsh (R (R o 5) 2)).2 then
  some (h.1 (R (R o 5) 2) v1.toNatClampNeg, h)
  else none)
  else
  (if v2 = 5 then
  (Option.bind (fPy_comesNow R (R o 8) v1 h) (fun (z7 : Int32) =>
  some (z7, h)))
  else
  (if v2 = 6 then
  (Option.bind (fPy_offenceNow R (R o 8) v1 h) (fun (z8 : Int32 × jH) =>
  some (z8.1, z8.2)))
  else
  (if v2 = 7 then
  (Option.bind (fSd_isAsked R (R o 5) v1 h) (fun (z9 : Int32) =>
  (if z9 = 0 then
  some ((-1), h)
  else
  (if jin v1 (jsh (R (R o 5) 3)).2 then
  some (h.1 (R (R o 5) 3) v1.toNatClampNeg, h)
  else none))))
  else
  some ((-1), h))))))))))
theorem kA_guest {X : jX} {d : Nat} {R : jR} {Q : Option Value → jS → Prop} {o : Nat} {v1 : Int32} {v2 : Int32} {h : jH} (hT : jTy R) (ho : jcl 176 o = 1) (hd : 7 ≤ d) {z : Int32 × jH} (K : fA_guest R o v1 v2 h = some z) (HQ : Q (some (.int z.1)) (176, R, z.2)) :
    jCa X d 84 [.ref o, .int v1, .int v2] (176, R, h) Q := by
  obtain ⟨d, rfl⟩ : ∃ d9, d = d9 + 1 := ⟨d - 1, by omega⟩
  unfold fA_guest at K
  refine jCa_of (es := jc_84) (pl := [some (.ref o), some (.int v1), some (.int v2), none]) (M := jm_84) rfl rfl rfl rfl ?_
  refine jx_next (pc := 0) (pc' := 1) rfl rfl ?_
  refine jx_next (pc := 1) (pc' := 2) rfl rfl ?_
  refine jx_callv (pc := 2) (o := o) (rest := []) rfl ⟨by decide, by decide⟩ rfl ho (Nat.le_of_ble_eq_true rfl) ?_
  refine kA_isGuest hT ho (by omega) rfl ?_
  refine jx_ifne (pc := 5) rfl (fun hc1 => ?_) (fun hc1 => ?_)
  · replace K := (if_pos hc1).symm.trans K
    refine jx_next (pc := 8) (pc' := 9) rfl rfl ?_
    obtain rfl := Option.some.inj K
    exact jx_iret (pc := 9) rfl HQ
  · replace K := (if_neg hc1).symm.trans K
    refine jx_next (pc := 10) (pc' := 11) rfl rfl ?_
    refine jx_getr (pc := 11) rfl ho ?_
    refine jx_callv (pc := 14) (o := (R o 8)) (rest := []) rfl ⟨by decide, by decide⟩ rfl (jtR hT ho (k := 8) (c := 8) rfl) (Nat.le_of_ble_eq_true rfl) ?_
    refine kPy_plan hT (jtR hT ho (k := 8) (c := 8) rfl) (by omega) rfl ?_
    refine jx_stan (pc := 17) (p2 := [some (.ref o), some (.int v1), some (.int v2), some (.ref (fPy_plan R (R o 8) h))]) rfl (jlt rfl) rfl ?_
    refine jx_next (pc := 18) (pc' := 19) rfl rfl ?_
    refine jx_tsw (pc := 19) rfl ?_
    refine jx_sw1 (fun hc19 => ?_) (fun hc19 => ?_)
    · replace K := (if_pos hc19).symm.trans K
      refine jx_next (pc := 64) (pc' := 65) rfl rfl ?_
      refine jx_getr (pc := 65) rfl (kPy_plan_c hT (jtR hT ho (k := 8) (c := 8) rfl)) ?_
      refine jx_next (pc := 68) (pc' := 69) rfl rfl ?_
      obtain ⟨hg2, K⟩ := jguard K
      refine jx_iald (pc := 69) rfl (jtR hT (kPy_plan_c hT (jtR hT ho (k := 8) (c := 8) rfl)) (k := 11) (c := 20) rfl) hg2 ?_
      obtain rfl := Option.some.inj K
      exact jx_iret (pc := 70) rfl HQ
    · replace K := (if_neg hc19).symm.trans K
      refine jx_sw1 (fun hc18 => ?_) (fun hc18 => ?_)
      · replace K := (if_pos hc18).symm.trans K
        refine jx_next (pc := 71) (pc' := 72) rfl rfl ?_
        refine jx_getr (pc := 72) rfl (kPy_plan_c hT (jtR hT ho (k := 8) (c := 8) rfl)) ?_
        refine jx_next (pc := 75) (pc' := 76) rfl rfl ?_
        obtain ⟨hg3, K⟩ := jguard K
        refine jx_iald (pc := 76) rfl (jtR hT (kPy_plan_c hT (jtR hT ho (k := 8) (c := 8) rfl)) (k := 12) (c := 20) rfl) hg3 ?_
        obtain rfl := Option.some.inj K
        exact jx_iret (pc := 77) rfl HQ
      · replace K := (if_neg hc18).symm.trans K
        refine jx_sw1 (fun hc17 => ?_) (fun hc17 => ?_)
        · replace K := (if_pos hc17).symm.trans K
          refine jx_next (pc := 78) (pc' := 79) rfl rfl ?_
          refine jx_getr (pc := 79) rfl (kPy_plan_c hT (jtR hT ho (k := 8) (c := 8) rfl)) ?_
          refine jx_next (pc := 82) (pc' := 83) rfl rfl ?_
          obtain ⟨hg4, K⟩ := jguard K
          refine jx_iald (pc := 83) rfl (jtR hT (kPy_plan_c hT (jtR hT ho (k := 8) (c := 8) rfl)) (k := 13) (c := 20) rfl) hg4 ?_
          obtain rfl := Option.some.inj K
          exact jx_iret (pc := 84) rfl HQ
        · replace K := (if_neg hc17).symm.trans K
          refine jx_sw1 (fun hc16 => ?_) (fun hc16 => ?_)
          · replace K := (if_pos hc16).symm.trans K
            refine jx_next (pc := 85) (pc' := 86) rfl rfl ?_
            refine jx_getr (pc := 86) rfl (kPy_plan_c hT (jtR hT ho (k := 8) (c := 8) rfl)) ?_
            refine jx_next (pc := 89) (pc' := 90) rfl rfl ?_
            obtain ⟨hg5, K⟩ := jguard K
            refine jx_iald (pc := 90) rfl (jtR hT (kPy_plan_c hT (jtR hT ho (k := 8) (c := 8) rfl)) (k := 14) (c := 20) rfl) hg5 ?_
            obtain rfl := Option.some.inj K
            exact jx_iret (pc := 91) rfl HQ
          · replace K := (if_neg hc16).symm.trans K
            refine jx_sw1 (fun hc15 => ?_) (fun hc15 => ?_)
            · replace K := (if_pos hc15).symm.trans K
              refine jx_next (pc := 92) (pc' := 93) rfl rfl ?_
              refine jx_getr (pc := 93) rfl ho ?_
              refine jx_getr (pc := 96) rfl (jtR hT ho (k := 5) (c := 6) rfl) ?_
              refine jx_next (pc := 99) (pc' := 100) rfl rfl ?_
              obtain ⟨hg6, K⟩ := jguard K
              refine jx_iald (pc := 100) rfl (jtR hT (jtR hT ho (k := 5) (c := 6) rfl) (k := 2) (c := 20) rfl) hg6 ?_
              obtain rfl := Option.some.inj K
              exact jx_iret (pc := 101) rfl HQ
            · replace K := (if_neg hc15).symm.trans K
              refine jx_sw1 (fun hc14 => ?_) (fun hc14 => ?_)
              · replace K := (if_pos hc14).symm.trans K
                refine jx_next (pc := 102) (pc' := 103) rfl rfl ?_
                refine jx_getr (pc := 103) rfl ho ?_
                refine jx_next (pc := 106) (pc' := 107) rfl rfl ?_
                refine jx_callv (pc := 107) (o := (R o 8)) (rest := []) rfl ⟨by decide, by decide⟩ rfl (jtR hT ho (k := 8) (c := 8) rfl) (Nat.le_of_ble_eq_true rfl) ?_
                obtain ⟨z7, hz_z7, K⟩ := Option.bind_eq_some_iff.mp K
                refine kPy_comesNow hT (jtR hT ho (k := 8) (c := 8) rfl) (by omega) hz_z7 ?_
                obtain rfl := Option.some.inj K
                exact jx_iret (pc := 110) rfl HQ
              · replace K := (if_neg hc14).symm.trans K
                refine jx_sw1 (fun hc13 => ?_) (fun hc13 => ?_)
                · replace K := (if_pos hc13).symm.trans K
                  refine jx_next (pc := 111) (pc' := 112) rfl rfl ?_
                  refine jx_getr (pc := 112) rfl ho ?_
                  refine jx_next (pc := 115) (pc' := 116) rfl rfl ?_
                  refine jx_callv (pc := 116) (o := (R o 8)) (rest := []) rfl ⟨by decide, by decide⟩ rfl (jtR hT ho (k := 8) (c := 8) rfl) (Nat.le_of_ble_eq_true rfl) ?_
                  obtain ⟨z8, hz_z8, K⟩ := Option.bind_eq_some_iff.mp K
                  refine kPy_offenceNow hT (jtR hT ho (k := 8) (c := 8) rfl) (by omega) hz_z8 ?_
                  obtain rfl := Option.some.inj K
                  exact jx_iret (pc := 119) rfl HQ
                · replace K := (if_neg hc13).symm.trans K
                  refine jx_sw1 (fun hc12 => ?_) (fun hc12 => ?_)
                  · replace K := (if_pos hc12).symm.trans K
                    refine jx_next (pc := 120) (pc' := 121) rfl rfl ?_
                    refine jx_getr (pc := 121) rfl ho ?_
                    refine jx_next (pc := 124) (pc' := 125) rfl rfl ?_
                    refine jx_callv (pc := 125) (o := (R o 5)) (rest := []) rfl ⟨by decide, by decide⟩ rfl (jtR hT ho (k := 5) (c := 6) rfl) (Nat.le_of_ble_eq_true rfl) ?_
                    obtain ⟨z9, hz_z9, K⟩ := Option.bind_eq_some_iff.mp K
                    refine kSd_isAsked hT (jtR hT ho (k := 5) (c := 6) rfl) (by omega) hz_z9 ?_
                    refine jx_ifeq (pc := 128) rfl (fun hc10 => ?_) (fun hc10 => ?_)
                    · replace K := (if_pos hc10).symm.trans K
                      refine jx_next (pc := 143) (pc' := 144) rfl rfl ?_
                      obtain rfl := Option.some.inj K
                      exact jx_iret (pc := 144) rfl HQ
                    · replace K := (if_neg hc10).symm.trans K
                      refine jx_next (pc := 131) (pc' := 132) rfl rfl ?_
                      refine jx_getr (pc := 132) rfl ho ?_
                      refine jx_getr (pc := 135) rfl (jtR hT ho (k := 5) (c := 6) rfl) ?_
                      refine jx_next (pc := 138) (pc' := 139) rfl rfl ?_
                      obtain ⟨hg11, K⟩ := jguard K
                      refine jx_iald (pc := 139) rfl (jtR hT (jtR hT ho (k := 5) (c := 6) rfl) (k := 3) (c := 20) rfl) hg11 ?_
                      refine jx_next (pc := 140) (pc' := 144) rfl rfl ?_
                      obtain rfl := Option.some.inj K
                      exact jx_iret (pc := 144) rfl HQ
                  · replace K := (if_neg hc12).symm.trans K
                    refine jx_sw0 ?_
                    refine jx_next (pc := 145) (pc' := 146) rfl rfl ?_
                    obtain rfl := Option.some.inj K
                    exact jx_iret (pc := 146) rfl HQ
/-- AndGuest.far(I)I -/
noncomputable def fA_far (R : jR) (o : Nat) (v1 : Int32) (h : jH) : Option Int32 :=
  (if (fA_isGuest R o v1 h) = 0 then
  some ((-1) : Int32)
  else
  (if jin v1 (jsh (R (fPy_plan R (R o 8) h) 17)).2 then
  some (h.1 (R (fPy_plan R (R o 8) h) 17) v1.toNatClampNeg : Int32)
  else none))
theorem kA_far {X : jX} {d : Nat} {R : jR} {Q : Option Value → jS → Prop} {o : Nat} {v1 : Int32} {h : jH} (hT : jTy R) (ho : jcl 176 o = 1) (hd : 2 ≤ d) {z : Int32} (K : fA_far R o v1 h = some z) (HQ : Q (some (.int z)) (176, R, h)) :
    jCa X d 101 [.ref o, .int v1] (176, R, h) Q := by
  obtain ⟨d, rfl⟩ : ∃ d9, d = d9 + 1 := ⟨d - 1, by omega⟩
  unfold fA_far at K
  refine jCa_of (es := jc_101) (pl := [some (.ref o), some (.int v1)]) (M := jm_101) rfl rfl rfl rfl ?_
  refine jx_next (pc := 0) (pc' := 1) rfl rfl ?_
  refine jx_next (pc := 1) (pc' := 2) rfl rfl ?_
  refine jx_callv (pc := 2) (o := o) (rest := []) rfl ⟨by decide, by decide⟩ rfl ho (Nat.le_of_ble_eq_true rfl) ?_
  refine kA_isGuest hT ho (by omega) rfl ?_
  refine jx_ifeq (pc := 5) rfl (fun hc1 => ?_) (fun hc1 => ?_)
  · replace K := (if_pos hc1).symm.trans K
    refine jx_next (pc := 23) (pc' := 24) rfl rfl ?_
    obtain rfl := Option.some.inj K
    exact jx_iret (pc := 24) rfl HQ
  · replace K := (if_neg hc1).symm.trans K
    refine jx_next (pc := 8) (pc' := 9) rfl rfl ?_
    refine jx_getr (pc := 9) rfl ho ?_
    refine jx_callv (pc := 12) (o := (R o 8)) (rest := []) rfl ⟨by decide, by decide⟩ rfl (jtR hT ho (k := 8) (c := 8) rfl) (Nat.le_of_ble_eq_true rfl) ?_
    refine kPy_plan hT (jtR hT ho (k := 8) (c := 8) rfl) (by omega) rfl ?_
    refine jx_getr (pc := 15) rfl (kPy_plan_c hT (jtR hT ho (k := 8) (c := 8) rfl)) ?_
    refine jx_next (pc := 18) (pc' := 19) rfl rfl ?_
    obtain ⟨hg2, K⟩ := jguard K
    refine jx_iald (pc := 19) rfl (jtR hT (kPy_plan_c hT (jtR hT ho (k := 8) (c := 8) rfl)) (k := 17) (c := 20) rfl) hg2 ?_
    refine jx_next (pc := 20) (pc' := 24) rfl rfl ?_
    obtain rfl := Option.some.inj K
    exact jx_iret (pc := 24) rfl HQ
noncomputable def fCr_clear_l2_b (R : jR) (o : Nat) (v1 : Int32) (h : jH) : Option ((Int32 × jH) ⊕ (jH)) :=
  (if 32 < v1 then
  some (.inr h)
  else
  (if jin v1 (jsh (R o 0)).2 then
  some (.inl (v1 + 1, jhL h (R o 0) v1.toNatClampNeg 0))
  else none))
noncomputable def fCr_clear_l2 (R : jR) (o : Nat) : (Int32 × jH) → Option ((Int32 × jH) ⊕ (jH)) :=
  fun (s : Int32 × jH) => fCr_clear_l2_b R o s.1 s.2
theorem kCr_clear_l2_b {X : jX} {d : Nat} {R : jR} {Q : Option Value → jS → Prop} {o : Nat} {v1 : Int32} {h : jH} (hT : jTy R) (ho : jcl 176 o = 9) (hd : 0 ≤ d) {z : (Int32 × jH) ⊕ (jH)} (K : fCr_clear_l2_b R o v1 h = some z) (HL : ∀ s : Int32 × jH, z = .inl s → jEx X d jc_105 2 [some (.ref o), some (.int s.1)] [] (176, R, s.2) Q) (HE0 : ∀ x : jH, z = .inr x → jEx X d jc_105 21 [some (.ref o), none] [] (176, R, x) Q) :
    jEx X d jc_105 2 [some (.ref o), some (.int v1)] [] (176, R, h) Q := by
  unfold fCr_clear_l2_b at K
  refine jx_next (pc := 2) (pc' := 3) rfl rfl ?_
  refine jx_next (pc := 3) (pc' := 5) rfl rfl ?_
  refine jx_icgt (pc := 5) rfl (fun hc1 => ?_) (fun hc1 => ?_)
  · replace K := (if_pos hc1).symm.trans K
    obtain rfl := Option.some.inj K
    refine jx_le (pl' := [some (.ref o), none]) (jle_v (jle_n jle_nil)) ?_
    exact HE0 _ rfl
  · replace K := (if_neg hc1).symm.trans K
    refine jx_next (pc := 8) (pc' := 9) rfl rfl ?_
    refine jx_getr (pc := 9) rfl ho ?_
    refine jx_next (pc := 12) (pc' := 13) rfl rfl ?_
    refine jx_next (pc := 13) (pc' := 14) rfl rfl ?_
    obtain ⟨hg2, K⟩ := jguard K
    refine jx_last (pc := 14) rfl (jtR hT ho (k := 0) (c := 21) rfl) hg2 ?_
    refine jx_inc (pc := 15) (x := v1) (p2 := [some (.ref o), some (.int (v1 + 1))]) rfl rfl (jlt rfl) rfl ?_
    refine jx_next (pc := 18) (pc' := 2) rfl rfl ?_
    obtain rfl := Option.some.inj K
    refine jx_le (pl' := [some (.ref o), some (.int (v1 + 1))]) (jle_v (jle_v jle_nil)) ?_
    exact HL _ rfl
theorem kCr_clear_l2_w {X : jX} {d : Nat} {R : jR} {Q : Option Value → jS → Prop} {o : Nat} (hT : jTy R) (ho : jcl 176 o = 9) (hd : 0 ≤ d) {s : Int32 × jH} {x : jH} (K : jlim (fCr_clear_l2 R o) s = some x) (HE : jEx X d jc_105 21 [some (.ref o), none] [] (176, R, x) Q) :
    jEx X d jc_105 2 [some (.ref o), some (.int s.1)] [] (176, R, s.2) Q := by
  refine jlim_ok (G := fun s : Int32 × jH => jEx X d jc_105 2 [some (.ref o), some (.int s.1)] [] (176, R, s.2) Q) (GX := fun x : jH => jEx X d jc_105 21 [some (.ref o), none] [] (176, R, x) Q) (fun s z hz HL HE => ?_) K HE
  exact kCr_clear_l2_b hT ho hd hz HL HE
/-- AndGuest$Crowd.clear()V -/
noncomputable def fCr_clear (R : jR) (o : Nat) (h : jH) : Option jH :=
  (Option.bind (jlim (fCr_clear_l2 R o) (0, h)) (fun (x3 : jH) =>
  (if jin 0 (jsh (R o 0)).2 then
  some (jhI (jhL x3 (R o 0) (0 : Int32).toNatClampNeg 100000000) o 1 0)
  else none)))
theorem kCr_clear {X : jX} {d : Nat} {R : jR} {Q : Option Value → jS → Prop} {o : Nat} {h : jH} (hT : jTy R) (ho : jcl 176 o = 9) (hd : 0 ≤ d) {z : jH} (K : fCr_clear R o h = some z) (HQ : Q none (176, R, z)) :
    jCa X d 105 [.ref o] (176, R, h) Q := by
  unfold fCr_clear at K
  refine jCa_of (es := jc_105) (pl := [some (.ref o), none]) (M := jm_105) rfl rfl rfl rfl ?_
  refine jx_next (pc := 0) (pc' := 1) rfl rfl ?_
  refine jx_stin (pc := 1) (p2 := [some (.ref o), some (.int 0)]) rfl (jlt rfl) rfl ?_
  refine jx_le (pl' := [some (.ref o), some (.int 0)]) (jle_v (jle_v jle_nil)) ?_
  obtain ⟨x3, hz_x3, K⟩ := Option.bind_eq_some_iff.mp K
  refine kCr_clear_l2_w hT ho hd hz_x3 ?_
  refine jx_next (pc := 21) (pc' := 22) rfl rfl ?_
  refine jx_getr (pc := 22) rfl ho ?_
  refine jx_next (pc := 25) (pc' := 26) rfl rfl ?_
  refine jx_next (pc := 26) (pc' := 29) rfl rfl ?_
  obtain ⟨hg4, K⟩ := jguard K
  refine jx_last (pc := 29) rfl (jtR hT ho (k := 0) (c := 21) rfl) hg4 ?_
  refine jx_next (pc := 30) (pc' := 31) rfl rfl ?_
  refine jx_next (pc := 31) (pc' := 32) rfl rfl ?_
  refine jx_puti (pc := 32) rfl ho ?_
  obtain rfl := Option.some.inj K
  exact jx_ret (pc := 35) rfl rfl HQ
noncomputable def fCr_add_l29_j57 (R : jR) (o : Nat) (v1 : Int32) (v2 : Int32) (v3 : Int32) (s0 : Int64) (h : jH) : Option ((Int32 × jH) ⊕ (jH)) :=
  (if jin v3 (jsh (R o 0)).2 then
  (if jin v3 (jsh (R o 0)).2 then
  some (.inl (v3 + (-1), jhL h (R o 0) v3.toNatClampNeg ((((h.2 (R o 0) v3.toNatClampNeg) / 10) * ((10 - v1).toInt64)) + s0)))
  else none)
  else none)
theorem kCr_add_l29_j57 {X : jX} {d : Nat} {R : jR} {Q : Option Value → jS → Prop} {o : Nat} {v1 : Int32} {v2 : Int32} {v3 : Int32} {s0 : Int64} {h : jH} (hT : jTy R) (ho : jcl 176 o = 9) (hd : 1 ≤ (d + 1)) {z : (Int32 × jH) ⊕ (jH)} (K : fCr_add_l29_j57 R o v1 v2 v3 s0 h = some z) (HL : ∀ s : Int32 × jH, z = .inl s → jEx X (d + 1) jc_106 29 [some (.ref o), some (.int v1), some (.int v2), some (.int s.1), none, none] [] (176, R, s.2) Q) (HE0 : ∀ x : jH, z = .inr x → jEx X (d + 1) jc_106 90 [none, none, none, none, none, none] [] (176, R, x) Q) :
    jEx X (d + 1) jc_106 57 [some (.ref o), some (.int v1), some (.int v2), some (.int v3), none, none] [.long s0] (176, R, h) Q := by
  unfold fCr_add_l29_j57 at K
  refine jx_stl (pc := 57) (p2 := [some (.ref o), some (.int v1), some (.int v2), some (.int v3), some (.long s0), none]) rfl (jlt rfl) rfl ?_
  refine jx_next (pc := 59) (pc' := 60) rfl rfl ?_
  refine jx_getr (pc := 60) rfl ho ?_
  refine jx_next (pc := 63) (pc' := 64) rfl rfl ?_
  refine jx_next (pc := 64) (pc' := 65) rfl rfl ?_
  refine jx_getr (pc := 65) rfl ho ?_
  refine jx_next (pc := 68) (pc' := 69) rfl rfl ?_
  obtain ⟨hg5, K⟩ := jguard K
  refine jx_lald (pc := 69) rfl (jtR hT ho (k := 0) (c := 21) rfl) hg5 ?_
  refine jx_next (pc := 70) (pc' := 73) rfl rfl ?_
  refine jx_ldiv (pc := 73) rfl (by decide) ?_
  refine jx_next (pc := 74) (pc' := 76) rfl rfl ?_
  refine jx_next (pc := 76) (pc' := 77) rfl rfl ?_
  refine jx_next (pc := 77) (pc' := 78) rfl rfl ?_
  refine jx_next (pc := 78) (pc' := 79) rfl rfl ?_
  refine jx_next (pc := 79) (pc' := 80) rfl rfl ?_
  refine jx_next (pc := 80) (pc' := 82) rfl rfl ?_
  refine jx_next (pc := 82) (pc' := 83) rfl rfl ?_
  obtain ⟨hg6, K⟩ := jguard K
  refine jx_last (pc := 83) rfl (jtR hT ho (k := 0) (c := 21) rfl) hg6 ?_
  refine jx_inc (pc := 84) (x := v3) (p2 := [some (.ref o), some (.int v1), some (.int v2), some (.int (v3 + (-1))), some (.long s0), none]) rfl rfl (jlt rfl) rfl ?_
  refine jx_next (pc := 87) (pc' := 29) rfl rfl ?_
  obtain rfl := Option.some.inj K
  refine jx_le (pl' := [some (.ref o), some (.int v1), some (.int v2), some (.int (v3 + (-1))), none, none]) (jle_v (jle_v (jle_v (jle_v (jle_n (jle_n jle_nil)))))) ?_
  exact HL _ rfl
noncomputable def fCr_add_l29_b (R : jR) (o : Nat) (v1 : Int32) (v2 : Int32) (v3 : Int32) (h : jH) : Option ((Int32 × jH) ⊕ (jH)) :=
  (if v3 < 0 then
  some (.inr h)
  else
  (if v3 < v2 then
  fCr_add_l29_j57 R o v1 v2 v3 0 h
  else
  (if jin (v3 - v2) (jsh (R o 0)).2 then
  fCr_add_l29_j57 R o v1 v2 v3 (((h.2 (R o 0) (v3 - v2).toNatClampNeg) / 10) * v1.toInt64) h
  else none)))
noncomputable def fCr_add_l29 (R : jR) (o : Nat) (v1 : Int32) (v2 : Int32) : (Int32 × jH) → Option ((Int32 × jH) ⊕ (jH)) :=
  fun (s : Int32 × jH) => fCr_add_l29_b R o v1 v2 s.1 s.2
theorem kCr_add_l29_b {X : jX} {d : Nat} {R : jR} {Q : Option Value → jS → Prop} {o : Nat} {v1 : Int32} {v2 : Int32} {v3 : Int32} {h : jH} (hT : jTy R) (ho : jcl 176 o = 9) (hd : 1 ≤ (d + 1)) {z : (Int32 × jH) ⊕ (jH)} (K : fCr_add_l29_b R o v1 v2 v3 h = some z) (HL : ∀ s : Int32 × jH, z = .inl s → jEx X (d + 1) jc_106 29 [some (.ref o), some (.int v1), some (.int v2), some (.int s.1), none, none] [] (176, R, s.2) Q) (HE0 : ∀ x : jH, z = .inr x → jEx X (d + 1) jc_106 90 [none, none, none, none, none, none] [] (176, R, x) Q) :
    jEx X (d + 1) jc_106 29 [some (.ref o), some (.int v1), some (.int v2), some (.int v3), none, none] [] (176, R, h) Q := by
  unfold fCr_add_l29_b at K
  refine jx_next (pc := 29) (pc' := 30) rfl rfl ?_
  refine jx_iflt (pc := 30) rfl (fun hc3 => ?_) (fun hc3 => ?_)
  · replace K := (if_pos hc3).symm.trans K
    obtain rfl := Option.some.inj K
    refine jx_le (pl' := [none, none, none, none, none, none]) (jle_n (jle_n (jle_n (jle_n (jle_n (jle_n jle_nil)))))) ?_
    exact HE0 _ rfl
  · replace K := (if_neg hc3).symm.trans K
    refine jx_next (pc := 33) (pc' := 34) rfl rfl ?_
    refine jx_next (pc := 34) (pc' := 35) rfl rfl ?_
    refine jx_iclt (pc := 35) rfl (fun hc4 => ?_) (fun hc4 => ?_)
    · replace K := (if_pos hc4).symm.trans K
      refine jx_next (pc := 56) (pc' := 57) rfl rfl ?_
      refine jx_le (pl' := [some (.ref o), some (.int v1), some (.int v2), some (.int v3), none, none]) (jle_v (jle_v (jle_v (jle_v (jle_n (jle_n jle_nil)))))) ?_
      exact kCr_add_l29_j57 hT ho hd K HL HE0
    · replace K := (if_neg hc4).symm.trans K
      refine jx_next (pc := 38) (pc' := 39) rfl rfl ?_
      refine jx_getr (pc := 39) rfl ho ?_
      refine jx_next (pc := 42) (pc' := 43) rfl rfl ?_
      refine jx_next (pc := 43) (pc' := 44) rfl rfl ?_
      refine jx_next (pc := 44) (pc' := 45) rfl rfl ?_
      obtain ⟨hg7, K⟩ := jguard K
      refine jx_lald (pc := 45) rfl (jtR hT ho (k := 0) (c := 21) rfl) hg7 ?_
      refine jx_next (pc := 46) (pc' := 49) rfl rfl ?_
      refine jx_ldiv (pc := 49) rfl (by decide) ?_
      refine jx_next (pc := 50) (pc' := 51) rfl rfl ?_
      refine jx_next (pc := 51) (pc' := 52) rfl rfl ?_
      refine jx_next (pc := 52) (pc' := 53) rfl rfl ?_
      refine jx_next (pc := 53) (pc' := 57) rfl rfl ?_
      refine jx_le (pl' := [some (.ref o), some (.int v1), some (.int v2), some (.int v3), none, none]) (jle_v (jle_v (jle_v (jle_v (jle_n (jle_n jle_nil)))))) ?_
      exact kCr_add_l29_j57 hT ho hd K HL HE0
theorem kCr_add_l29_w {X : jX} {d : Nat} {R : jR} {Q : Option Value → jS → Prop} {o : Nat} {v1 : Int32} {v2 : Int32} (hT : jTy R) (ho : jcl 176 o = 9) (hd : 1 ≤ (d + 1)) {s : Int32 × jH} {x : jH} (K : jlim (fCr_add_l29 R o v1 v2) s = some x) (HE : jEx X (d + 1) jc_106 90 [none, none, none, none, none, none] [] (176, R, x) Q) :
    jEx X (d + 1) jc_106 29 [some (.ref o), some (.int v1), some (.int v2), some (.int s.1), none, none] [] (176, R, s.2) Q := by
  refine jlim_ok (G := fun s : Int32 × jH => jEx X (d + 1) jc_106 29 [some (.ref o), some (.int v1), some (.int v2), some (.int s.1), none, none] [] (176, R, s.2) Q) (GX := fun x : jH => jEx X (d + 1) jc_106 90 [none, none, none, none, none, none] [] (176, R, x) Q) (fun s z hz HL HE => ?_) K HE
  exact kCr_add_l29_b hT ho hd hz HL HE
/-- AndGuest$Crowd.add(II)V -/
noncomputable def fCr_add (R : jR) (o : Nat) (v1 : Int32) (v2 : Int32) (h : jH) : Option jH :=
  (if 0 < v1 then
  (if v2 < 0 then
  some h
  else
  (Option.bind (jlim (fCr_add_l29 R o v1 v2) ((jhI h o 1 (fMt_min ((h.1 o 1) + v2) 32)).1 o 1, jhI h o 1 (fMt_min ((h.1 o 1) + v2) 32))) (fun (x8 : jH) =>
  some x8)))
  else
  some h)
theorem kCr_add {X : jX} {d : Nat} {R : jR} {Q : Option Value → jS → Prop} {o : Nat} {v1 : Int32} {v2 : Int32} {h : jH} (hT : jTy R) (ho : jcl 176 o = 9) (hd : 1 ≤ d) {z : jH} (K : fCr_add R o v1 v2 h = some z) (HQ : Q none (176, R, z)) :
    jCa X d 106 [.ref o, .int v1, .int v2] (176, R, h) Q := by
  obtain ⟨d, rfl⟩ : ∃ d9, d = d9 + 1 := ⟨d - 1, by omega⟩
  unfold fCr_add at K
  refine jCa_of (es := jc_106) (pl := [some (.ref o), some (.int v1), some (.int v2), none, none, none]) (M := jm_106) rfl rfl rfl rfl ?_
  refine jx_next (pc := 0) (pc' := 1) rfl rfl ?_
  refine jx_ifle (pc := 1) rfl (fun hc1 => ?_) (fun hc1 => ?_)
  · replace K := (if_pos hc1).symm.trans K
    refine jx_next (pc := 4) (pc' := 5) rfl rfl ?_
    refine jx_ifge (pc := 5) rfl (fun hc2 => ?_) (fun hc2 => ?_)
    · replace K := (if_pos hc2).symm.trans K
      obtain rfl := Option.some.inj K
      exact jx_ret (pc := 8) rfl rfl HQ
    · replace K := (if_neg hc2).symm.trans K
      refine jx_next (pc := 9) (pc' := 10) rfl rfl ?_
      refine jx_next (pc := 10) (pc' := 11) rfl rfl ?_
      refine jx_geti (pc := 11) rfl ho ?_
      refine jx_next (pc := 14) (pc' := 15) rfl rfl ?_
      refine jx_next (pc := 15) (pc' := 16) rfl rfl ?_
      refine jx_next (pc := 16) (pc' := 18) rfl rfl ?_
      refine jx_calls (pc := 18) rfl (Nat.le_of_ble_eq_true rfl) (Nat.le_of_ble_eq_true rfl) ?_
      refine kMt_min  (by omega) rfl ?_
      refine jx_puti (pc := 21) rfl ho ?_
      refine jx_next (pc := 24) (pc' := 25) rfl rfl ?_
      refine jx_geti (pc := 25) rfl ho ?_
      refine jx_stin (pc := 28) (p2 := [some (.ref o), some (.int v1), some (.int v2), some (.int ((jhI h o 1 (fMt_min ((h.1 o 1) + v2) 32)).1 o 1)), none, none]) rfl (jlt rfl) rfl ?_
      refine jx_le (pl' := [some (.ref o), some (.int v1), some (.int v2), some (.int ((jhI h o 1 (fMt_min ((h.1 o 1) + v2) 32)).1 o 1)), none, none]) (jle_v (jle_v (jle_v (jle_v (jle_n (jle_n jle_nil)))))) ?_
      obtain ⟨x8, hz_x8, K⟩ := Option.bind_eq_some_iff.mp K
      refine kCr_add_l29_w hT ho hd hz_x8 ?_
      obtain rfl := Option.some.inj K
      exact jx_ret (pc := 90) rfl rfl HQ
  · replace K := (if_neg hc1).symm.trans K
    obtain rfl := Option.some.inj K
    exact jx_ret (pc := 8) rfl rfl HQ
noncomputable def fPy_crowdWhen_l9_j44 (R : jR) (o : Nat) (v1 : Int32) (v2 : Int32) (v3 : Int32) (s0 : Nat) (s1 : Int32) (h : jH) : Option ((Int32 × jH) ⊕ (jH)) :=
  (if jin v3 (jsh (R (R o 4) 13)).2 then
  (Option.bind (fCr_add R s0 s1 (h.1 (R (R o 4) 13) v3.toNatClampNeg) h) (fun (z6 : jH) =>
  some (.inl (v3 + 1, z6))))
  else none)
theorem kPy_crowdWhen_l9_j44 {X : jX} {d : Nat} {R : jR} {Q : Option Value → jS → Prop} {o : Nat} {v1 : Int32} {v2 : Int32} {v3 : Int32} {s0 : Nat} {s1 : Int32} {h : jH} (hT : jTy R) (ho : jcl 176 o = 8) (hs0 : jcl 176 s0 = 9) (hd : 2 ≤ (d + 1)) {z : (Int32 × jH) ⊕ (jH)} (K : fPy_crowdWhen_l9_j44 R o v1 v2 v3 s0 s1 h = some z) (HL : ∀ s : Int32 × jH, z = .inl s → jEx X (d + 1) jc_104 9 [some (.ref o), some (.int v1), some (.int v2), some (.int s.1)] [] (176, R, s.2) Q) (HE0 : ∀ x : jH, z = .inr x → jEx X (d + 1) jc_104 62 [some (.ref o), none, none, none] [] (176, R, x) Q) :
    jEx X (d + 1) jc_104 44 [some (.ref o), some (.int v1), some (.int v2), some (.int v3)] [.int s1, .ref s0] (176, R, h) Q := by
  unfold fPy_crowdWhen_l9_j44 at K
  refine jx_next (pc := 44) (pc' := 45) rfl rfl ?_
  refine jx_getr (pc := 45) rfl ho ?_
  refine jx_getr (pc := 48) rfl (jtR hT ho (k := 4) (c := 10) rfl) ?_
  refine jx_next (pc := 51) (pc' := 52) rfl rfl ?_
  obtain ⟨hg5, K⟩ := jguard K
  refine jx_iald (pc := 52) rfl (jtR hT (jtR hT ho (k := 4) (c := 10) rfl) (k := 13) (c := 20) rfl) hg5 ?_
  refine jx_callv (pc := 53) (o := s0) (rest := []) rfl ⟨by decide, by decide⟩ rfl hs0 (Nat.le_of_ble_eq_true rfl) ?_
  obtain ⟨z6, hz_z6, K⟩ := Option.bind_eq_some_iff.mp K
  refine kCr_add hT hs0 (by omega) hz_z6 ?_
  refine jx_inc (pc := 56) (x := v3) (p2 := [some (.ref o), some (.int v1), some (.int v2), some (.int (v3 + 1))]) rfl rfl (jlt rfl) rfl ?_
  refine jx_next (pc := 59) (pc' := 9) rfl rfl ?_
  obtain rfl := Option.some.inj K
  refine jx_le (pl' := [some (.ref o), some (.int v1), some (.int v2), some (.int (v3 + 1))]) (jle_v (jle_v (jle_v (jle_v jle_nil)))) ?_
  exact HL _ rfl
noncomputable def fPy_crowdWhen_l9_b (R : jR) (o : Nat) (v1 : Int32) (v2 : Int32) (v3 : Int32) (h : jH) : Option ((Int32 × jH) ⊕ (jH)) :=
  (if v3 < (h.1 (R o 4) 0) then
  (if v3 < 8 then
  (if v3 = v1 then
  fPy_crowdWhen_l9_j44 R o v1 v2 v3 (R o 1) v2 h
  else
  (Option.bind (fPy_comesNow R o v3 h) (fun (z7 : Int32) =>
  fPy_crowdWhen_l9_j44 R o v1 v2 v3 (R o 1) z7 h)))
  else
  some (.inr h))
  else
  some (.inr h))
noncomputable def fPy_crowdWhen_l9 (R : jR) (o : Nat) (v1 : Int32) (v2 : Int32) : (Int32 × jH) → Option ((Int32 × jH) ⊕ (jH)) :=
  fun (s : Int32 × jH) => fPy_crowdWhen_l9_b R o v1 v2 s.1 s.2
theorem kPy_crowdWhen_l9_b {X : jX} {d : Nat} {R : jR} {Q : Option Value → jS → Prop} {o : Nat} {v1 : Int32} {v2 : Int32} {v3 : Int32} {h : jH} (hT : jTy R) (ho : jcl 176 o = 8) (hd : 2 ≤ (d + 1)) {z : (Int32 × jH) ⊕ (jH)} (K : fPy_crowdWhen_l9_b R o v1 v2 v3 h = some z) (HL : ∀ s : Int32 × jH, z = .inl s → jEx X (d + 1) jc_104 9 [some (.ref o), some (.int v1), some (.int v2), some (.int s.1)] [] (176, R, s.2) Q) (HE0 : ∀ x : jH, z = .inr x → jEx X (d + 1) jc_104 62 [some (.ref o), none, none, none] [] (176, R, x) Q) :
    jEx X (d + 1) jc_104 9 [some (.ref o), some (.int v1), some (.int v2), some (.int v3)] [] (176, R, h) Q := by
  unfold fPy_crowdWhen_l9_b at K
  refine jx_next (pc := 9) (pc' := 10) rfl rfl ?_
  refine jx_next (pc := 10) (pc' := 11) rfl rfl ?_
  refine jx_getr (pc := 11) rfl ho ?_
  refine jx_geti (pc := 14) rfl (jtR hT ho (k := 4) (c := 10) rfl) ?_
  refine jx_icge (pc := 17) rfl (fun hc2 => ?_) (fun hc2 => ?_)
  · replace K := (if_pos hc2).symm.trans K
    refine jx_next (pc := 20) (pc' := 21) rfl rfl ?_
    refine jx_next (pc := 21) (pc' := 23) rfl rfl ?_
    refine jx_icge (pc := 23) rfl (fun hc3 => ?_) (fun hc3 => ?_)
    · replace K := (if_pos hc3).symm.trans K
      refine jx_next (pc := 26) (pc' := 27) rfl rfl ?_
      refine jx_getr (pc := 27) rfl ho ?_
      refine jx_next (pc := 30) (pc' := 31) rfl rfl ?_
      refine jx_next (pc := 31) (pc' := 32) rfl rfl ?_
      refine jx_icne (pc := 32) rfl (fun hc4 => ?_) (fun hc4 => ?_)
      · replace K := (if_pos hc4).symm.trans K
        refine jx_next (pc := 35) (pc' := 36) rfl rfl ?_
        refine jx_next (pc := 36) (pc' := 44) rfl rfl ?_
        refine jx_le (pl' := [some (.ref o), some (.int v1), some (.int v2), some (.int v3)]) (jle_v (jle_v (jle_v (jle_v jle_nil)))) ?_
        exact kPy_crowdWhen_l9_j44 hT ho (jtR hT ho (k := 1) (c := 9) rfl) hd K HL HE0
      · replace K := (if_neg hc4).symm.trans K
        refine jx_next (pc := 39) (pc' := 40) rfl rfl ?_
        refine jx_next (pc := 40) (pc' := 41) rfl rfl ?_
        refine jx_callv (pc := 41) (o := o) (rest := [.ref (R o 1)]) rfl ⟨by decide, by decide⟩ rfl ho (Nat.le_of_ble_eq_true rfl) ?_
        obtain ⟨z7, hz_z7, K⟩ := Option.bind_eq_some_iff.mp K
        refine kPy_comesNow hT ho (by omega) hz_z7 ?_
        refine jx_le (pl' := [some (.ref o), some (.int v1), some (.int v2), some (.int v3)]) (jle_v (jle_v (jle_v (jle_v jle_nil)))) ?_
        exact kPy_crowdWhen_l9_j44 hT ho (jtR hT ho (k := 1) (c := 9) rfl) hd K HL HE0
    · replace K := (if_neg hc3).symm.trans K
      obtain rfl := Option.some.inj K
      refine jx_le (pl' := [some (.ref o), none, none, none]) (jle_v (jle_n (jle_n (jle_n jle_nil)))) ?_
      exact HE0 _ rfl
  · replace K := (if_neg hc2).symm.trans K
    obtain rfl := Option.some.inj K
    refine jx_le (pl' := [some (.ref o), none, none, none]) (jle_v (jle_n (jle_n (jle_n jle_nil)))) ?_
    exact HE0 _ rfl
theorem kPy_crowdWhen_l9_w {X : jX} {d : Nat} {R : jR} {Q : Option Value → jS → Prop} {o : Nat} {v1 : Int32} {v2 : Int32} (hT : jTy R) (ho : jcl 176 o = 8) (hd : 2 ≤ (d + 1)) {s : Int32 × jH} {x : jH} (K : jlim (fPy_crowdWhen_l9 R o v1 v2) s = some x) (HE : jEx X (d + 1) jc_104 62 [some (.ref o), none, none, none] [] (176, R, x) Q) :
    jEx X (d + 1) jc_104 9 [some (.ref o), some (.int v1), some (.int v2), some (.int s.1)] [] (176, R, s.2) Q := by
  refine jlim_ok (G := fun s : Int32 × jH => jEx X (d + 1) jc_104 9 [some (.ref o), some (.int v1), some (.int v2), some (.int s.1)] [] (176, R, s.2) Q) (GX := fun x : jH => jEx X (d + 1) jc_104 62 [some (.ref o), none, none, none] [] (176, R, x) Q) (fun s z hz HL HE => ?_) K HE
  exact kPy_crowdWhen_l9_b hT ho hd hz HL HE
/-- AndGuest$Party.crowdWhen(II)LAndGuest$Crowd; -/
noncomputable def fPy_crowdWhen (R : jR) (o : Nat) (v1 : Int32) (v2 : Int32) (h : jH) : Option (Nat × jH) :=
  (Option.bind (fCr_clear R (R o 1) h) (fun (z1 : jH) =>
  (Option.bind (jlim (fPy_crowdWhen_l9 R o v1 v2) (0, z1)) (fun (x8 : jH) =>
  some (R o 1, x8)))))
theorem kPy_crowdWhen {X : jX} {d : Nat} {R : jR} {Q : Option Value → jS → Prop} {o : Nat} {v1 : Int32} {v2 : Int32} {h : jH} (hT : jTy R) (ho : jcl 176 o = 8) (hd : 2 ≤ d) {z : Nat × jH} (K : fPy_crowdWhen R o v1 v2 h = some z) (HQ : Q (some (.ref z.1)) (176, R, z.2)) :
    jCa X d 104 [.ref o, .int v1, .int v2] (176, R, h) Q := by
  obtain ⟨d, rfl⟩ : ∃ d9, d = d9 + 1 := ⟨d - 1, by omega⟩
  unfold fPy_crowdWhen at K
  refine jCa_of (es := jc_104) (pl := [some (.ref o), some (.int v1), some (.int v2), none]) (M := jm_104) rfl rfl rfl rfl ?_
  refine jx_next (pc := 0) (pc' := 1) rfl rfl ?_
  refine jx_getr (pc := 1) rfl ho ?_
  refine jx_callv (pc := 4) (o := (R o 1)) (rest := []) rfl ⟨by decide, by decide⟩ rfl (jtR hT ho (k := 1) (c := 9) rfl) (Nat.le_of_ble_eq_true rfl) ?_
  obtain ⟨z1, hz_z1, K⟩ := Option.bind_eq_some_iff.mp K
  refine kCr_clear hT (jtR hT ho (k := 1) (c := 9) rfl) (by omega) hz_z1 ?_
  refine jx_next (pc := 7) (pc' := 8) rfl rfl ?_
  refine jx_stin (pc := 8) (p2 := [some (.ref o), some (.int v1), some (.int v2), some (.int 0)]) rfl (jlt rfl) rfl ?_
  refine jx_le (pl' := [some (.ref o), some (.int v1), some (.int v2), some (.int 0)]) (jle_v (jle_v (jle_v (jle_v jle_nil)))) ?_
  obtain ⟨x8, hz_x8, K⟩ := Option.bind_eq_some_iff.mp K
  refine kPy_crowdWhen_l9_w hT ho hd hz_x8 ?_
  refine jx_next (pc := 62) (pc' := 63) rfl rfl ?_
  refine jx_getr (pc := 63) rfl ho ?_
  obtain rfl := Option.some.inj K
  exact jx_ret (pc := 66) rfl rfl HQ
/-- AndGuest$Party.crowdNow()LAndGuest$Crowd; -/
noncomputable def fPy_crowdNow (R : jR) (o : Nat) (h : jH) : Option (Nat × jH) :=
  (Option.bind (fPy_crowdWhen R o (-1) 0 h) (fun (z1 : Nat × jH) =>
  some (z1.1, z1.2)))
theorem kPy_crowdNow {X : jX} {d : Nat} {R : jR} {Q : Option Value → jS → Prop} {o : Nat} {h : jH} (hT : jTy R) (ho : jcl 176 o = 8) (hd : 3 ≤ d) {z : Nat × jH} (K : fPy_crowdNow R o h = some z) (HQ : Q (some (.ref z.1)) (176, R, z.2)) :
    jCa X d 103 [.ref o] (176, R, h) Q := by
  obtain ⟨d, rfl⟩ : ∃ d9, d = d9 + 1 := ⟨d - 1, by omega⟩
  unfold fPy_crowdNow at K
  refine jCa_of (es := jc_103) (pl := [some (.ref o)]) (M := jm_103) rfl rfl rfl rfl ?_
  refine jx_next (pc := 0) (pc' := 1) rfl rfl ?_
  refine jx_next (pc := 1) (pc' := 2) rfl rfl ?_
  refine jx_next (pc := 2) (pc' := 3) rfl rfl ?_
  refine jx_callv (pc := 3) (o := o) (rest := []) rfl ⟨by decide, by decide⟩ rfl ho (Nat.le_of_ble_eq_true rfl) ?_
  obtain ⟨z1, hz_z1, K⟩ := Option.bind_eq_some_iff.mp K
  refine kPy_crowdWhen hT ho (by omega) hz_z1 ?_
  obtain rfl := Option.some.inj K
  exact jx_ret (pc := 6) rfl rfl HQ
/-- AndGuest$Crowd.justMillionths(I)J -/
noncomputable def fCr_justMillionths (R : jR) (o : Nat) (v1 : Int32) (h : jH) : Option Int64 :=
  (if v1 < 0 then
  some (0 : Int64)
  else
  (if 32 < v1 then
  some (0 : Int64)
  else
  (if jin v1 (jsh (R o 0)).2 then
  some ((h.2 (R o 0) v1.toNatClampNeg) / 100 : Int64)
  else none)))
theorem kCr_justMillionths {X : jX} {d : Nat} {R : jR} {Q : Option Value → jS → Prop} {o : Nat} {v1 : Int32} {h : jH} (hT : jTy R) (ho : jcl 176 o = 9) (hd : 0 ≤ d) {z : Int64} (K : fCr_justMillionths R o v1 h = some z) (HQ : Q (some (.long z)) (176, R, h)) :
    jCa X d 107 [.ref o, .int v1] (176, R, h) Q := by
  unfold fCr_justMillionths at K
  refine jCa_of (es := jc_107) (pl := [some (.ref o), some (.int v1)]) (M := jm_107) rfl rfl rfl rfl ?_
  refine jx_next (pc := 0) (pc' := 1) rfl rfl ?_
  refine jx_iflt (pc := 1) rfl (fun hc1 => ?_) (fun hc1 => ?_)
  · replace K := (if_pos hc1).symm.trans K
    refine jx_next (pc := 23) (pc' := 24) rfl rfl ?_
    obtain rfl := Option.some.inj K
    exact jx_ret (pc := 24) rfl rfl HQ
  · replace K := (if_neg hc1).symm.trans K
    refine jx_next (pc := 4) (pc' := 5) rfl rfl ?_
    refine jx_next (pc := 5) (pc' := 7) rfl rfl ?_
    refine jx_icgt (pc := 7) rfl (fun hc2 => ?_) (fun hc2 => ?_)
    · replace K := (if_pos hc2).symm.trans K
      refine jx_next (pc := 23) (pc' := 24) rfl rfl ?_
      obtain rfl := Option.some.inj K
      exact jx_ret (pc := 24) rfl rfl HQ
    · replace K := (if_neg hc2).symm.trans K
      refine jx_next (pc := 10) (pc' := 11) rfl rfl ?_
      refine jx_getr (pc := 11) rfl ho ?_
      refine jx_next (pc := 14) (pc' := 15) rfl rfl ?_
      obtain ⟨hg3, K⟩ := jguard K
      refine jx_lald (pc := 15) rfl (jtR hT ho (k := 0) (c := 21) rfl) hg3 ?_
      refine jx_next (pc := 16) (pc' := 19) rfl rfl ?_
      refine jx_ldiv (pc := 19) rfl (by decide) ?_
      refine jx_next (pc := 20) (pc' := 24) rfl rfl ?_
      obtain rfl := Option.some.inj K
      exact jx_ret (pc := 24) rfl rfl HQ
/-- AndGuest.odds(I)I -/
noncomputable def fA_odds (R : jR) (o : Nat) (v1 : Int32) (h : jH) : Option (Int32 × jH) :=
  (if (h.1 o 12) = 0 then
  some ((-1), h)
  else
  (if v1 < 0 then
  some ((-1), h)
  else
  (if 32 < v1 then
  some ((-1), h)
  else
  (Option.bind (fPy_crowdNow R (R o 8) h) (fun (z4 : Nat × jH) =>
  (Option.bind (fCr_justMillionths R z4.1 v1 z4.2) (fun (z5 : Int64) =>
  some (z5.toInt32, z4.2))))))))
theorem kA_odds {X : jX} {d : Nat} {R : jR} {Q : Option Value → jS → Prop} {o : Nat} {v1 : Int32} {h : jH} (hT : jTy R) (ho : jcl 176 o = 1) (hd : 4 ≤ d) {z : Int32 × jH} (K : fA_odds R o v1 h = some z) (HQ : Q (some (.int z.1)) (176, R, z.2)) :
    jCa X d 102 [.ref o, .int v1] (176, R, h) Q := by
  obtain ⟨d, rfl⟩ : ∃ d9, d = d9 + 1 := ⟨d - 1, by omega⟩
  unfold fA_odds at K
  refine jCa_of (es := jc_102) (pl := [some (.ref o), some (.int v1)]) (M := jm_102) rfl rfl rfl rfl ?_
  refine jx_next (pc := 0) (pc' := 1) rfl rfl ?_
  refine jx_getz (pc := 1) rfl ho ?_
  refine jx_ifeq (pc := 4) rfl (fun hc1 => ?_) (fun hc1 => ?_)
  · replace K := (if_pos hc1).symm.trans K
    refine jx_next (pc := 17) (pc' := 18) rfl rfl ?_
    obtain rfl := Option.some.inj K
    exact jx_iret (pc := 18) rfl HQ
  · replace K := (if_neg hc1).symm.trans K
    refine jx_next (pc := 7) (pc' := 8) rfl rfl ?_
    refine jx_iflt (pc := 8) rfl (fun hc2 => ?_) (fun hc2 => ?_)
    · replace K := (if_pos hc2).symm.trans K
      refine jx_next (pc := 17) (pc' := 18) rfl rfl ?_
      obtain rfl := Option.some.inj K
      exact jx_iret (pc := 18) rfl HQ
    · replace K := (if_neg hc2).symm.trans K
      refine jx_next (pc := 11) (pc' := 12) rfl rfl ?_
      refine jx_next (pc := 12) (pc' := 14) rfl rfl ?_
      refine jx_icle (pc := 14) rfl (fun hc3 => ?_) (fun hc3 => ?_)
      · replace K := (if_pos hc3).symm.trans K
        refine jx_next (pc := 17) (pc' := 18) rfl rfl ?_
        obtain rfl := Option.some.inj K
        exact jx_iret (pc := 18) rfl HQ
      · replace K := (if_neg hc3).symm.trans K
        refine jx_next (pc := 19) (pc' := 20) rfl rfl ?_
        refine jx_getr (pc := 20) rfl ho ?_
        refine jx_callv (pc := 23) (o := (R o 8)) (rest := []) rfl ⟨by decide, by decide⟩ rfl (jtR hT ho (k := 8) (c := 8) rfl) (Nat.le_of_ble_eq_true rfl) ?_
        obtain ⟨z4, hz_z4, K⟩ := Option.bind_eq_some_iff.mp K
        refine kPy_crowdNow hT (jtR hT ho (k := 8) (c := 8) rfl) (by omega) hz_z4 ?_
        refine jx_next (pc := 26) (pc' := 27) rfl rfl ?_
        refine jx_callv (pc := 27) (o := z4.1) (rest := []) rfl ⟨by decide, by decide⟩ rfl (kPy_crowdNow_c hT (jtR hT ho (k := 8) (c := 8) rfl) hz_z4) (Nat.le_of_ble_eq_true rfl) ?_
        obtain ⟨z5, hz_z5, K⟩ := Option.bind_eq_some_iff.mp K
        refine kCr_justMillionths hT (kPy_crowdNow_c hT (jtR hT ho (k := 8) (c := 8) rfl) hz_z4) (by omega) hz_z5 ?_
        refine jx_next (pc := 30) (pc' := 31) rfl rfl ?_
        obtain rfl := Option.some.inj K
        exact jx_iret (pc := 31) rfl HQ
noncomputable def fCr_moreMillionths_l5_j28 (R : jR) (o : Nat) (v1 : Int32) (v2 : Int64) (v4 : Int32) (h : jH) : Option ((Int64 × Int32) ⊕ (Int64)) :=
  some (.inl (v2, v4 + 1))
theorem kCr_moreMillionths_l5_j28 {X : jX} {d : Nat} {R : jR} {Q : Option Value → jS → Prop} {o : Nat} {v1 : Int32} {v2 : Int64} {v4 : Int32} {h : jH} (hT : jTy R) (ho : jcl 176 o = 9) (hd : 0 ≤ d) {z : (Int64 × Int32) ⊕ (Int64)} (K : fCr_moreMillionths_l5_j28 R o v1 v2 v4 h = some z) (HL : ∀ s : Int64 × Int32, z = .inl s → jEx X d jc_109 5 [some (.ref o), some (.int v1), some (.long s.1), none, some (.int s.2)] [] (176, R, h) Q) (HE0 : ∀ x : Int64, z = .inr x → jEx X d jc_109 34 [none, none, some (.long x), none, none] [] (176, R, h) Q) :
    jEx X d jc_109 28 [some (.ref o), some (.int v1), some (.long v2), none, some (.int v4)] [] (176, R, h) Q := by
  unfold fCr_moreMillionths_l5_j28 at K
  refine jx_inc (pc := 28) (x := v4) (p2 := [some (.ref o), some (.int v1), some (.long v2), none, some (.int (v4 + 1))]) rfl rfl (jlt rfl) rfl ?_
  refine jx_next (pc := 31) (pc' := 5) rfl rfl ?_
  obtain rfl := Option.some.inj K
  refine jx_le (pl' := [some (.ref o), some (.int v1), some (.long v2), none, some (.int (v4 + 1))]) (jle_v (jle_v (jle_v (jle_n (jle_v jle_nil))))) ?_
  exact HL _ rfl
noncomputable def fCr_moreMillionths_l5_b (R : jR) (o : Nat) (v1 : Int32) (v2 : Int64) (v4 : Int32) (h : jH) : Option ((Int64 × Int32) ⊕ (Int64)) :=
  (if 32 < v4 then
  some (.inr v2)
  else
  (if v1 < v4 then
  (if jin v4 (jsh (R o 0)).2 then
  fCr_moreMillionths_l5_j28 R o v1 (v2 + (h.2 (R o 0) v4.toNatClampNeg)) v4 h
  else none)
  else
  fCr_moreMillionths_l5_j28 R o v1 v2 v4 h))
noncomputable def fCr_moreMillionths_l5 (R : jR) (o : Nat) (v1 : Int32) (h : jH) : (Int64 × Int32) → Option ((Int64 × Int32) ⊕ (Int64)) :=
  fun (s : Int64 × Int32) => fCr_moreMillionths_l5_b R o v1 s.1 s.2 h
theorem kCr_moreMillionths_l5_b {X : jX} {d : Nat} {R : jR} {Q : Option Value → jS → Prop} {o : Nat} {v1 : Int32} {v2 : Int64} {v4 : Int32} {h : jH} (hT : jTy R) (ho : jcl 176 o = 9) (hd : 0 ≤ d) {z : (Int64 × Int32) ⊕ (Int64)} (K : fCr_moreMillionths_l5_b R o v1 v2 v4 h = some z) (HL : ∀ s : Int64 × Int32, z = .inl s → jEx X d jc_109 5 [some (.ref o), some (.int v1), some (.long s.1), none, some (.int s.2)] [] (176, R, h) Q) (HE0 : ∀ x : Int64, z = .inr x → jEx X d jc_109 34 [none, none, some (.long x), none, none] [] (176, R, h) Q) :
    jEx X d jc_109 5 [some (.ref o), some (.int v1), some (.long v2), none, some (.int v4)] [] (176, R, h) Q := by
  unfold fCr_moreMillionths_l5_b at K
  refine jx_next (pc := 5) (pc' := 7) rfl rfl ?_
  refine jx_next (pc := 7) (pc' := 9) rfl rfl ?_
  refine jx_icgt (pc := 9) rfl (fun hc1 => ?_) (fun hc1 => ?_)
  · replace K := (if_pos hc1).symm.trans K
    obtain rfl := Option.some.inj K
    refine jx_le (pl' := [none, none, some (.long v2), none, none]) (jle_n (jle_n (jle_v (jle_n (jle_n jle_nil))))) ?_
    exact HE0 _ rfl
  · replace K := (if_neg hc1).symm.trans K
    refine jx_next (pc := 12) (pc' := 14) rfl rfl ?_
    refine jx_next (pc := 14) (pc' := 15) rfl rfl ?_
    refine jx_icle (pc := 15) rfl (fun hc2 => ?_) (fun hc2 => ?_)
    · replace K := (if_pos hc2).symm.trans K
      refine jx_next (pc := 18) (pc' := 19) rfl rfl ?_
      refine jx_next (pc := 19) (pc' := 20) rfl rfl ?_
      refine jx_getr (pc := 20) rfl ho ?_
      refine jx_next (pc := 23) (pc' := 25) rfl rfl ?_
      obtain ⟨hg3, K⟩ := jguard K
      refine jx_lald (pc := 25) rfl (jtR hT ho (k := 0) (c := 21) rfl) hg3 ?_
      refine jx_next (pc := 26) (pc' := 27) rfl rfl ?_
      refine jx_stln (pc := 27) (p2 := [some (.ref o), some (.int v1), some (.long (v2 + (h.2 (R o 0) v4.toNatClampNeg))), none, some (.int v4)]) rfl (jlt rfl) rfl ?_
      refine jx_le (pl' := [some (.ref o), some (.int v1), some (.long (v2 + (h.2 (R o 0) v4.toNatClampNeg))), none, some (.int v4)]) (jle_v (jle_v (jle_v (jle_n (jle_v jle_nil))))) ?_
      exact kCr_moreMillionths_l5_j28 hT ho hd K HL HE0
    · replace K := (if_neg hc2).symm.trans K
      refine jx_le (pl' := [some (.ref o), some (.int v1), some (.long v2), none, some (.int v4)]) (jle_v (jle_v (jle_v (jle_n (jle_v jle_nil))))) ?_
      exact kCr_moreMillionths_l5_j28 hT ho hd K HL HE0
theorem kCr_moreMillionths_l5_w {X : jX} {d : Nat} {R : jR} {Q : Option Value → jS → Prop} {o : Nat} {v1 : Int32} {h : jH} (hT : jTy R) (ho : jcl 176 o = 9) (hd : 0 ≤ d) {s : Int64 × Int32} {x : Int64} (K : jlim (fCr_moreMillionths_l5 R o v1 h) s = some x) (HE : jEx X d jc_109 34 [none, none, some (.long x), none, none] [] (176, R, h) Q) :
    jEx X d jc_109 5 [some (.ref o), some (.int v1), some (.long s.1), none, some (.int s.2)] [] (176, R, h) Q := by
  refine jlim_ok (G := fun s : Int64 × Int32 => jEx X d jc_109 5 [some (.ref o), some (.int v1), some (.long s.1), none, some (.int s.2)] [] (176, R, h) Q) (GX := fun x : Int64 => jEx X d jc_109 34 [none, none, some (.long x), none, none] [] (176, R, h) Q) (fun s z hz HL HE => ?_) K HE
  exact kCr_moreMillionths_l5_b hT ho hd hz HL HE
/-- AndGuest$Crowd.moreMillionths(I)J -/
noncomputable def fCr_moreMillionths (R : jR) (o : Nat) (v1 : Int32) (h : jH) : Option Int64 :=
  (Option.bind (jlim (fCr_moreMillionths_l5 R o v1 h) (0, 0)) (fun (x4 : Int64) =>
  some (x4 / 100 : Int64)))
theorem kCr_moreMillionths {X : jX} {d : Nat} {R : jR} {Q : Option Value → jS → Prop} {o : Nat} {v1 : Int32} {h : jH} (hT : jTy R) (ho : jcl 176 o = 9) (hd : 0 ≤ d) {z : Int64} (K : fCr_moreMillionths R o v1 h = some z) (HQ : Q (some (.long z)) (176, R, h)) :
    jCa X d 109 [.ref o, .int v1] (176, R, h) Q := by
  unfold fCr_moreMillionths at K
  refine jCa_of (es := jc_109) (pl := [some (.ref o), some (.int v1), none, none, none]) (M := jm_109) rfl rfl rfl rfl ?_
  refine jx_next (pc := 0) (pc' := 1) rfl rfl ?_
  refine jx_stln (pc := 1) (p2 := [some (.ref o), some (.int v1), some (.long 0), none, none]) rfl (jlt rfl) rfl ?_
  refine jx_next (pc := 2) (pc' := 3) rfl rfl ?_
  refine jx_sti (pc := 3) (p2 := [some (.ref o), some (.int v1), some (.long 0), none, some (.int 0)]) rfl (jlt rfl) rfl ?_
  refine jx_le (pl' := [some (.ref o), some (.int v1), some (.long 0), none, some (.int 0)]) (jle_v (jle_v (jle_v (jle_n (jle_v jle_nil))))) ?_
  obtain ⟨x4, hz_x4, K⟩ := Option.bind_eq_some_iff.mp K
  refine kCr_moreMillionths_l5_w hT ho hd hz_x4 ?_
  refine jx_next (pc := 34) (pc' := 35) rfl rfl ?_
  refine jx_next (pc := 35) (pc' := 38) rfl rfl ?_
  refine jx_ldiv (pc := 38) rfl (by decide) ?_
  obtain rfl := Option.some.inj K
  exact jx_ret (pc := 39) rfl rfl HQ
/-- AndGuest.above(I)I -/
noncomputable def fA_above (R : jR) (o : Nat) (v1 : Int32) (h : jH) : Option (Int32 × jH) :=
  (if (h.1 o 12) = 0 then
  some ((-1), h)
  else
  (if v1 < 0 then
  some ((-1), h)
  else
  (if 32 < v1 then
  some ((-1), h)
  else
  (Option.bind (fPy_crowdNow R (R o 8) h) (fun (z4 : Nat × jH) =>
  (Option.bind (fCr_moreMillionths R z4.1 v1 z4.2) (fun (z5 : Int64) =>
  some (z5.toInt32, z4.2))))))))
theorem kA_above {X : jX} {d : Nat} {R : jR} {Q : Option Value → jS → Prop} {o : Nat} {v1 : Int32} {h : jH} (hT : jTy R) (ho : jcl 176 o = 1) (hd : 4 ≤ d) {z : Int32 × jH} (K : fA_above R o v1 h = some z) (HQ : Q (some (.int z.1)) (176, R, z.2)) :
    jCa X d 108 [.ref o, .int v1] (176, R, h) Q := by
  obtain ⟨d, rfl⟩ : ∃ d9, d = d9 + 1 := ⟨d - 1, by omega⟩
  unfold fA_above at K
  refine jCa_of (es := jc_108) (pl := [some (.ref o), some (.int v1)]) (M := jm_108) rfl rfl rfl rfl ?_
  refine jx_next (pc := 0) (pc' := 1) rfl rfl ?_
  refine jx_getz (pc := 1) rfl ho ?_
  refine jx_ifeq (pc := 4) rfl (fun hc1 => ?_) (fun hc1 => ?_)
  · replace K := (if_pos hc1).symm.trans K
    refine jx_next (pc := 17) (pc' := 18) rfl rfl ?_
    obtain rfl := Option.some.inj K
    exact jx_iret (pc := 18) rfl HQ
  · replace K := (if_neg hc1).symm.trans K
    refine jx_next (pc := 7) (pc' := 8) rfl rfl ?_
    refine jx_iflt (pc := 8) rfl (fun hc2 => ?_) (fun hc2 => ?_)
    · replace K := (if_pos hc2).symm.trans K
      refine jx_next (pc := 17) (pc' := 18) rfl rfl ?_
      obtain rfl := Option.some.inj K
      exact jx_iret (pc := 18) rfl HQ
    · replace K := (if_neg hc2).symm.trans K
      refine jx_next (pc := 11) (pc' := 12) rfl rfl ?_
      refine jx_next (pc := 12) (pc' := 14) rfl rfl ?_
      refine jx_icle (pc := 14) rfl (fun hc3 => ?_) (fun hc3 => ?_)
      · replace K := (if_pos hc3).symm.trans K
        refine jx_next (pc := 17) (pc' := 18) rfl rfl ?_
        obtain rfl := Option.some.inj K
        exact jx_iret (pc := 18) rfl HQ
      · replace K := (if_neg hc3).symm.trans K
        refine jx_next (pc := 19) (pc' := 20) rfl rfl ?_
        refine jx_getr (pc := 20) rfl ho ?_
        refine jx_callv (pc := 23) (o := (R o 8)) (rest := []) rfl ⟨by decide, by decide⟩ rfl (jtR hT ho (k := 8) (c := 8) rfl) (Nat.le_of_ble_eq_true rfl) ?_
        obtain ⟨z4, hz_z4, K⟩ := Option.bind_eq_some_iff.mp K
        refine kPy_crowdNow hT (jtR hT ho (k := 8) (c := 8) rfl) (by omega) hz_z4 ?_
        refine jx_next (pc := 26) (pc' := 27) rfl rfl ?_
        refine jx_callv (pc := 27) (o := z4.1) (rest := []) rfl ⟨by decide, by decide⟩ rfl (kPy_crowdNow_c hT (jtR hT ho (k := 8) (c := 8) rfl) hz_z4) (Nat.le_of_ble_eq_true rfl) ?_
        obtain ⟨z5, hz_z5, K⟩ := Option.bind_eq_some_iff.mp K
        refine kCr_moreMillionths hT (kPy_crowdNow_c hT (jtR hT ho (k := 8) (c := 8) rfl) hz_z4) (by omega) hz_z5 ?_
        refine jx_next (pc := 30) (pc' := 31) rfl rfl ?_
        obtain rfl := Option.some.inj K
        exact jx_iret (pc := 31) rfl HQ
noncomputable def fCr_someOf_l25_j72 (R : jR) (v0 : Int32) (v1 : Int32) (v2 : Int32) (v3 : Int64) (v5 : Int64) (v7 : Int32) (h : jH) : Option ((Int64 × Int64 × Int32) ⊕ (Int64 × Int64)) :=
  some (.inl (v3, v5, v7 + 1))
theorem kCr_someOf_l25_j72 {X : jX} {d : Nat} {R : jR} {Q : Option Value → jS → Prop} {v0 : Int32} {v1 : Int32} {v2 : Int32} {v3 : Int64} {v5 : Int64} {v7 : Int32} {h : jH} (hT : jTy R)  (hd : 0 ≤ d) {z : (Int64 × Int64 × Int32) ⊕ (Int64 × Int64)} (K : fCr_someOf_l25_j72 R v0 v1 v2 v3 v5 v7 h = some z) (HL : ∀ s : Int64 × Int64 × Int32, z = .inl s → jEx X d jc_111 25 [some (.int v0), some (.int v1), some (.int v2), some (.long s.1), none, some (.long s.2.1), none, some (.int s.2.2)] [] (176, R, h) Q) (HE0 : ∀ x : Int64 × Int64, z = .inr x → jEx X d jc_111 78 [some (.int v0), none, none, some (.long x.1), none, some (.long x.2), none, none] [] (176, R, h) Q) :
    jEx X d jc_111 72 [some (.int v0), some (.int v1), some (.int v2), some (.long v3), none, some (.long v5), none, some (.int v7)] [] (176, R, h) Q := by
  unfold fCr_someOf_l25_j72 at K
  refine jx_inc (pc := 72) (x := v7) (p2 := [some (.int v0), some (.int v1), some (.int v2), some (.long v3), none, some (.long v5), none, some (.int (v7 + 1))]) rfl rfl (jlt rfl) rfl ?_
  refine jx_next (pc := 75) (pc' := 25) rfl rfl ?_
  obtain rfl := Option.some.inj K
  refine jx_le (pl' := [some (.int v0), some (.int v1), some (.int v2), some (.long v3), none, some (.long v5), none, some (.int (v7 + 1))]) (jle_v (jle_v (jle_v (jle_v (jle_n (jle_v (jle_n (jle_v jle_nil)))))))) ?_
  exact HL _ rfl
noncomputable def fCr_someOf_l25_j49 (R : jR) (v0 : Int32) (v1 : Int32) (v2 : Int32) (v3 : Int64) (v7 : Int32) (s0 : Int64) (s1 : Int64) (h : jH) : Option ((Int64 × Int64 × Int32) ⊕ (Int64 × Int64)) :=
  (if v7 < v1 then
  (if ¬ ((v7 + 1).toInt64) = 0 then
  fCr_someOf_l25_j72 R v0 v1 v2 ((v3 * ((v0 - v7).toInt64)) / ((v7 + 1).toInt64)) (s0 * s1) v7 h
  else none)
  else
  fCr_someOf_l25_j72 R v0 v1 v2 v3 (s0 * s1) v7 h)
theorem kCr_someOf_l25_j49 {X : jX} {d : Nat} {R : jR} {Q : Option Value → jS → Prop} {v0 : Int32} {v1 : Int32} {v2 : Int32} {v3 : Int64} {v7 : Int32} {s0 : Int64} {s1 : Int64} {h : jH} (hT : jTy R)  (hd : 0 ≤ d) {z : (Int64 × Int64 × Int32) ⊕ (Int64 × Int64)} (K : fCr_someOf_l25_j49 R v0 v1 v2 v3 v7 s0 s1 h = some z) (HL : ∀ s : Int64 × Int64 × Int32, z = .inl s → jEx X d jc_111 25 [some (.int v0), some (.int v1), some (.int v2), some (.long s.1), none, some (.long s.2.1), none, some (.int s.2.2)] [] (176, R, h) Q) (HE0 : ∀ x : Int64 × Int64, z = .inr x → jEx X d jc_111 78 [some (.int v0), none, none, some (.long x.1), none, some (.long x.2), none, none] [] (176, R, h) Q) :
    jEx X d jc_111 49 [some (.int v0), some (.int v1), some (.int v2), some (.long v3), none, none, none, some (.int v7)] [.long s1, .long s0] (176, R, h) Q := by
  unfold fCr_someOf_l25_j49 at K
  refine jx_next (pc := 49) (pc' := 50) rfl rfl ?_
  refine jx_stl (pc := 50) (p2 := [some (.int v0), some (.int v1), some (.int v2), some (.long v3), none, some (.long (s0 * s1)), none, some (.int v7)]) rfl (jlt rfl) rfl ?_
  refine jx_next (pc := 52) (pc' := 54) rfl rfl ?_
  refine jx_next (pc := 54) (pc' := 55) rfl rfl ?_
  refine jx_icge (pc := 55) rfl (fun hc6 => ?_) (fun hc6 => ?_)
  · replace K := (if_pos hc6).symm.trans K
    refine jx_next (pc := 58) (pc' := 59) rfl rfl ?_
    refine jx_next (pc := 59) (pc' := 60) rfl rfl ?_
    refine jx_next (pc := 60) (pc' := 62) rfl rfl ?_
    refine jx_next (pc := 62) (pc' := 63) rfl rfl ?_
    refine jx_next (pc := 63) (pc' := 64) rfl rfl ?_
    refine jx_next (pc := 64) (pc' := 65) rfl rfl ?_
    refine jx_next (pc := 65) (pc' := 67) rfl rfl ?_
    refine jx_next (pc := 67) (pc' := 68) rfl rfl ?_
    refine jx_next (pc := 68) (pc' := 69) rfl rfl ?_
    refine jx_next (pc := 69) (pc' := 70) rfl rfl ?_
    obtain ⟨hg, K⟩ := jguard K
    refine jx_ldiv (pc := 70) rfl hg ?_
    refine jx_stln (pc := 71) (p2 := [some (.int v0), some (.int v1), some (.int v2), some (.long ((v3 * ((v0 - v7).toInt64)) / ((v7 + 1).toInt64))), none, some (.long (s0 * s1)), none, some (.int v7)]) rfl (jlt rfl) rfl ?_
    refine jx_le (pl' := [some (.int v0), some (.int v1), some (.int v2), some (.long ((v3 * ((v0 - v7).toInt64)) / ((v7 + 1).toInt64))), none, some (.long (s0 * s1)), none, some (.int v7)]) (jle_v (jle_v (jle_v (jle_v (jle_n (jle_v (jle_n (jle_v jle_nil)))))))) ?_
    exact kCr_someOf_l25_j72 hT  hd K HL HE0
  · replace K := (if_neg hc6).symm.trans K
    refine jx_le (pl' := [some (.int v0), some (.int v1), some (.int v2), some (.long v3), none, some (.long (s0 * s1)), none, some (.int v7)]) (jle_v (jle_v (jle_v (jle_v (jle_n (jle_v (jle_n (jle_v jle_nil)))))))) ?_
    exact kCr_someOf_l25_j72 hT  hd K HL HE0
noncomputable def fCr_someOf_l25_b (R : jR) (v0 : Int32) (v1 : Int32) (v2 : Int32) (v3 : Int64) (v5 : Int64) (v7 : Int32) (h : jH) : Option ((Int64 × Int64 × Int32) ⊕ (Int64 × Int64)) :=
  (if v7 < v0 then
  (if v7 < v1 then
  fCr_someOf_l25_j49 R v0 v1 v2 v3 v7 v5 v2.toInt64 h
  else
  fCr_someOf_l25_j49 R v0 v1 v2 v3 v7 v5 ((100 - v2).toInt64) h)
  else
  some (.inr (v3, v5)))
noncomputable def fCr_someOf_l25 (R : jR) (v0 : Int32) (v1 : Int32) (v2 : Int32) (h : jH) : (Int64 × Int64 × Int32) → Option ((Int64 × Int64 × Int32) ⊕ (Int64 × Int64)) :=
  fun (s : Int64 × Int64 × Int32) => fCr_someOf_l25_b R v0 v1 v2 s.1 s.2.1 s.2.2 h
theorem kCr_someOf_l25_b {X : jX} {d : Nat} {R : jR} {Q : Option Value → jS → Prop} {v0 : Int32} {v1 : Int32} {v2 : Int32} {v3 : Int64} {v5 : Int64} {v7 : Int32} {h : jH} (hT : jTy R)  (hd : 0 ≤ d) {z : (Int64 × Int64 × Int32) ⊕ (Int64 × Int64)} (K : fCr_someOf_l25_b R v0 v1 v2 v3 v5 v7 h = some z) (HL : ∀ s : Int64 × Int64 × Int32, z = .inl s → jEx X d jc_111 25 [some (.int v0), some (.int v1), some (.int v2), some (.long s.1), none, some (.long s.2.1), none, some (.int s.2.2)] [] (176, R, h) Q) (HE0 : ∀ x : Int64 × Int64, z = .inr x → jEx X d jc_111 78 [some (.int v0), none, none, some (.long x.1), none, some (.long x.2), none, none] [] (176, R, h) Q) :
    jEx X d jc_111 25 [some (.int v0), some (.int v1), some (.int v2), some (.long v3), none, some (.long v5), none, some (.int v7)] [] (176, R, h) Q := by
  unfold fCr_someOf_l25_b at K
  refine jx_next (pc := 25) (pc' := 27) rfl rfl ?_
  refine jx_next (pc := 27) (pc' := 28) rfl rfl ?_
  refine jx_icge (pc := 28) rfl (fun hc4 => ?_) (fun hc4 => ?_)
  · replace K := (if_pos hc4).symm.trans K
    refine jx_next (pc := 31) (pc' := 33) rfl rfl ?_
    refine jx_next (pc := 33) (pc' := 35) rfl rfl ?_
    refine jx_next (pc := 35) (pc' := 36) rfl rfl ?_
    refine jx_icge (pc := 36) rfl (fun hc5 => ?_) (fun hc5 => ?_)
    · replace K := (if_pos hc5).symm.trans K
      refine jx_next (pc := 39) (pc' := 40) rfl rfl ?_
      refine jx_next (pc := 40) (pc' := 41) rfl rfl ?_
      refine jx_next (pc := 41) (pc' := 49) rfl rfl ?_
      refine jx_le (pl' := [some (.int v0), some (.int v1), some (.int v2), some (.long v3), none, none, none, some (.int v7)]) (jle_v (jle_v (jle_v (jle_v (jle_n (jle_n (jle_n (jle_v jle_nil)))))))) ?_
      exact kCr_someOf_l25_j49 hT  hd K HL HE0
    · replace K := (if_neg hc5).symm.trans K
      refine jx_next (pc := 44) (pc' := 46) rfl rfl ?_
      refine jx_next (pc := 46) (pc' := 47) rfl rfl ?_
      refine jx_next (pc := 47) (pc' := 48) rfl rfl ?_
      refine jx_next (pc := 48) (pc' := 49) rfl rfl ?_
      refine jx_le (pl' := [some (.int v0), some (.int v1), some (.int v2), some (.long v3), none, none, none, some (.int v7)]) (jle_v (jle_v (jle_v (jle_v (jle_n (jle_n (jle_n (jle_v jle_nil)))))))) ?_
      exact kCr_someOf_l25_j49 hT  hd K HL HE0
  · replace K := (if_neg hc4).symm.trans K
    obtain rfl := Option.some.inj K
    refine jx_le (pl' := [some (.int v0), none, none, some (.long v3), none, some (.long v5), none, none]) (jle_v (jle_n (jle_n (jle_v (jle_n (jle_v (jle_n (jle_n jle_nil)))))))) ?_
    exact HE0 _ rfl
theorem kCr_someOf_l25_w {X : jX} {d : Nat} {R : jR} {Q : Option Value → jS → Prop} {v0 : Int32} {v1 : Int32} {v2 : Int32} {h : jH} (hT : jTy R)  (hd : 0 ≤ d) {s : Int64 × Int64 × Int32} {x : Int64 × Int64} (K : jlim (fCr_someOf_l25 R v0 v1 v2 h) s = some x) (HE : jEx X d jc_111 78 [some (.int v0), none, none, some (.long x.1), none, some (.long x.2), none, none] [] (176, R, h) Q) :
    jEx X d jc_111 25 [some (.int v0), some (.int v1), some (.int v2), some (.long s.1), none, some (.long s.2.1), none, some (.int s.2.2)] [] (176, R, h) Q := by
  refine jlim_ok (G := fun s : Int64 × Int64 × Int32 => jEx X d jc_111 25 [some (.int v0), some (.int v1), some (.int v2), some (.long s.1), none, some (.long s.2.1), none, some (.int s.2.2)] [] (176, R, h) Q) (GX := fun x : Int64 × Int64 => jEx X d jc_111 78 [some (.int v0), none, none, some (.long x.1), none, some (.long x.2), none, none] [] (176, R, h) Q) (fun s z hz HL HE => ?_) K HE
  exact kCr_someOf_l25_b hT  hd hz HL HE
noncomputable def fCr_someOf_l87_b (R : jR) (v0 : Int32) (v5 : Int64) (v7 : Int32) (h : jH) : Option ((Int64 × Int32) ⊕ (Int64)) :=
  (if v7 < 3 then
  some (.inl (v5 * 100, v7 + 1))
  else
  some (.inr v5))
noncomputable def fCr_someOf_l87 (R : jR) (v0 : Int32) (h : jH) : (Int64 × Int32) → Option ((Int64 × Int32) ⊕ (Int64)) :=
  fun (s : Int64 × Int32) => fCr_someOf_l87_b R v0 s.1 s.2 h
theorem kCr_someOf_l87_b {X : jX} {d : Nat} {R : jR} {Q : Option Value → jS → Prop} {v0 : Int32} {v5 : Int64} {v7 : Int32} {h : jH} (hT : jTy R)  (hd : 0 ≤ d) {z : (Int64 × Int32) ⊕ (Int64)} (K : fCr_someOf_l87_b R v0 v5 v7 h = some z) (HL : ∀ s : Int64 × Int32, z = .inl s → jEx X d jc_111 87 [some (.int v0), none, none, none, none, some (.long s.1), none, some (.int s.2)] [] (176, R, h) Q) (HE0 : ∀ x : Int64, z = .inr x → jEx X d jc_111 107 [some (.int v0), none, none, none, none, some (.long x), none, none] [] (176, R, h) Q) :
    jEx X d jc_111 87 [some (.int v0), none, none, none, none, some (.long v5), none, some (.int v7)] [] (176, R, h) Q := by
  unfold fCr_someOf_l87_b at K
  refine jx_next (pc := 87) (pc' := 89) rfl rfl ?_
  refine jx_next (pc := 89) (pc' := 90) rfl rfl ?_
  refine jx_icge (pc := 90) rfl (fun hc8 => ?_) (fun hc8 => ?_)
  · replace K := (if_pos hc8).symm.trans K
    refine jx_next (pc := 93) (pc' := 95) rfl rfl ?_
    refine jx_next (pc := 95) (pc' := 98) rfl rfl ?_
    refine jx_next (pc := 98) (pc' := 99) rfl rfl ?_
    refine jx_stl (pc := 99) (p2 := [some (.int v0), none, none, none, none, some (.long (v5 * 100)), none, some (.int v7)]) rfl (jlt rfl) rfl ?_
    refine jx_inc (pc := 101) (x := v7) (p2 := [some (.int v0), none, none, none, none, some (.long (v5 * 100)), none, some (.int (v7 + 1))]) rfl rfl (jlt rfl) rfl ?_
    refine jx_next (pc := 104) (pc' := 87) rfl rfl ?_
    obtain rfl := Option.some.inj K
    refine jx_le (pl' := [some (.int v0), none, none, none, none, some (.long (v5 * 100)), none, some (.int (v7 + 1))]) (jle_v (jle_n (jle_n (jle_n (jle_n (jle_v (jle_n (jle_v jle_nil)))))))) ?_
    exact HL _ rfl
  · replace K := (if_neg hc8).symm.trans K
    obtain rfl := Option.some.inj K
    refine jx_le (pl' := [some (.int v0), none, none, none, none, some (.long v5), none, none]) (jle_v (jle_n (jle_n (jle_n (jle_n (jle_v (jle_n (jle_n jle_nil)))))))) ?_
    exact HE0 _ rfl
theorem kCr_someOf_l87_w {X : jX} {d : Nat} {R : jR} {Q : Option Value → jS → Prop} {v0 : Int32} {h : jH} (hT : jTy R)  (hd : 0 ≤ d) {s : Int64 × Int32} {x : Int64} (K : jlim (fCr_someOf_l87 R v0 h) s = some x) (HE : jEx X d jc_111 107 [some (.int v0), none, none, none, none, some (.long x), none, none] [] (176, R, h) Q) :
    jEx X d jc_111 87 [some (.int v0), none, none, none, none, some (.long s.1), none, some (.int s.2)] [] (176, R, h) Q := by
  refine jlim_ok (G := fun s : Int64 × Int32 => jEx X d jc_111 87 [some (.int v0), none, none, none, none, some (.long s.1), none, some (.int s.2)] [] (176, R, h) Q) (GX := fun x : Int64 => jEx X d jc_111 107 [some (.int v0), none, none, none, none, some (.long x), none, none] [] (176, R, h) Q) (fun s z hz HL HE => ?_) K HE
  exact kCr_someOf_l87_b hT  hd hz HL HE
noncomputable def fCr_someOf_l110_b (R : jR) (v0 : Int32) (v5 : Int64) (v7 : Int32) (h : jH) : Option ((Int64 × Int32) ⊕ (Int64)) :=
  (if v7 < v0 then
  some (.inl (v5 / 100, v7 + 1))
  else
  some (.inr v5))
noncomputable def fCr_someOf_l110 (R : jR) (v0 : Int32) (h : jH) : (Int64 × Int32) → Option ((Int64 × Int32) ⊕ (Int64)) :=
  fun (s : Int64 × Int32) => fCr_someOf_l110_b R v0 s.1 s.2 h
theorem kCr_someOf_l110_b {X : jX} {d : Nat} {R : jR} {Q : Option Value → jS → Prop} {v0 : Int32} {v5 : Int64} {v7 : Int32} {h : jH} (hT : jTy R)  (hd : 0 ≤ d) {z : (Int64 × Int32) ⊕ (Int64)} (K : fCr_someOf_l110_b R v0 v5 v7 h = some z) (HL : ∀ s : Int64 × Int32, z = .inl s → jEx X d jc_111 110 [some (.int v0), none, none, none, none, some (.long s.1), none, some (.int s.2)] [] (176, R, h) Q) (HE0 : ∀ x : Int64, z = .inr x → jEx X d jc_111 130 [none, none, none, none, none, some (.long x), none, none] [] (176, R, h) Q) :
    jEx X d jc_111 110 [some (.int v0), none, none, none, none, some (.long v5), none, some (.int v7)] [] (176, R, h) Q := by
  unfold fCr_someOf_l110_b at K
  refine jx_next (pc := 110) (pc' := 112) rfl rfl ?_
  refine jx_next (pc := 112) (pc' := 113) rfl rfl ?_
  refine jx_icge (pc := 113) rfl (fun hc10 => ?_) (fun hc10 => ?_)
  · replace K := (if_pos hc10).symm.trans K
    refine jx_next (pc := 116) (pc' := 118) rfl rfl ?_
    refine jx_next (pc := 118) (pc' := 121) rfl rfl ?_
    refine jx_ldiv (pc := 121) rfl (by decide) ?_
    refine jx_stl (pc := 122) (p2 := [some (.int v0), none, none, none, none, some (.long (v5 / 100)), none, some (.int v7)]) rfl (jlt rfl) rfl ?_
    refine jx_inc (pc := 124) (x := v7) (p2 := [some (.int v0), none, none, none, none, some (.long (v5 / 100)), none, some (.int (v7 + 1))]) rfl rfl (jlt rfl) rfl ?_
    refine jx_next (pc := 127) (pc' := 110) rfl rfl ?_
    obtain rfl := Option.some.inj K
    refine jx_le (pl' := [some (.int v0), none, none, none, none, some (.long (v5 / 100)), none, some (.int (v7 + 1))]) (jle_v (jle_n (jle_n (jle_n (jle_n (jle_v (jle_n (jle_v jle_nil)))))))) ?_
    exact HL _ rfl
  · replace K := (if_neg hc10).symm.trans K
    obtain rfl := Option.some.inj K
    refine jx_le (pl' := [none, none, none, none, none, some (.long v5), none, none]) (jle_n (jle_n (jle_n (jle_n (jle_n (jle_v (jle_n (jle_n jle_nil)))))))) ?_
    exact HE0 _ rfl
theorem kCr_someOf_l110_w {X : jX} {d : Nat} {R : jR} {Q : Option Value → jS → Prop} {v0 : Int32} {h : jH} (hT : jTy R)  (hd : 0 ≤ d) {s : Int64 × Int32} {x : Int64} (K : jlim (fCr_someOf_l110 R v0 h) s = some x) (HE : jEx X d jc_111 130 [none, none, none, none, none, some (.long x), none, none] [] (176, R, h) Q) :
    jEx X d jc_111 110 [some (.int v0), none, none, none, none, some (.long s.1), none, some (.int s.2)] [] (176, R, h) Q := by
  refine jlim_ok (G := fun s : Int64 × Int32 => jEx X d jc_111 110 [some (.int v0), none, none, none, none, some (.long s.1), none, some (.int s.2)] [] (176, R, h) Q) (GX := fun x : Int64 => jEx X d jc_111 130 [none, none, none, none, none, some (.long x), none, none] [] (176, R, h) Q) (fun s z hz HL HE => ?_) K HE
  exact kCr_someOf_l110_b hT  hd hz HL HE
/-- AndGuest$Crowd.someOf(III)J -/
noncomputable def fCr_someOf (v0 : Int32) (v1 : Int32) (v2 : Int32) : Option Int64 :=
  (if v1 < 0 then
  some (0 : Int64)
  else
  (if v0 < v1 then
  some (0 : Int64)
  else
  (if 8 < v0 then
  some (0 : Int64)
  else
  (Option.bind (jlim (fCr_someOf_l25 R v0 v1 v2 h) (1, 1, 0)) (fun (x7 : Int64 × Int64) =>
  (Option.bind (jlim (fCr_someOf_l87 R v0 h) (x7.2 * x7.1, v0)) (fun (x9 : Int64) =>
  (Option.bind (jlim (fCr_someOf_l110 R v0 h) (x9, 3)) (fun (x11 : Int64) =>
  some (x11 : Int64))))))))))
theorem kCr_someOf {X : jX} {d : Nat} {R : jR} {Q : Option Value → jS → Prop} {v0 : Int32} {v1 : Int32} {v2 : Int32} {h : jH}  (hd : 0 ≤ d) {z : Int64} (K : fCr_someOf v0 v1 v2 = some z) (HQ : Q (some (.long z)) (176, R, h)) :
    jCa X d 111 [.int v0, .int v1, .int v2] (176, R, h) Q := by
  unfold fCr_someOf at K
  refine jCa_of (es := jc_111) (pl := [some (.int v0), some (.int v1), some (.int v2), none, none, none, none, none]) (M := jm_111) rfl rfl rfl rfl ?_
  refine jx_next (pc := 0) (pc' := 1) rfl rfl ?_
  refine jx_iflt (pc := 1) rfl (fun hc1 => ?_) (fun hc1 => ?_)
  · replace K := (if_pos hc1).symm.trans K
    refine jx_next (pc := 15) (pc' := 16) rfl rfl ?_
    obtain rfl := Option.some.inj K
    exact jx_ret (pc := 16) rfl rfl HQ
  · replace K := (if_neg hc1).symm.trans K
    refine jx_next (pc := 4) (pc' := 5) rfl rfl ?_
    refine jx_next (pc := 5) (pc' := 6) rfl rfl ?_
    refine jx_icgt (pc := 6) rfl (fun hc2 => ?_) (fun hc2 => ?_)
    · replace K := (if_pos hc2).symm.trans K
      refine jx_next (pc := 15) (pc' := 16) rfl rfl ?_
      obtain rfl := Option.some.inj K
      exact jx_ret (pc := 16) rfl rfl HQ
    · replace K := (if_neg hc2).symm.trans K
      refine jx_next (pc := 9) (pc' := 10) rfl rfl ?_
      refine jx_next (pc := 10) (pc' := 12) rfl rfl ?_
      refine jx_icle (pc := 12) rfl (fun hc3 => ?_) (fun hc3 => ?_)
      · replace K := (if_pos hc3).symm.trans K
        refine jx_next (pc := 15) (pc' := 16) rfl rfl ?_
        obtain rfl := Option.some.inj K
        exact jx_ret (pc := 16) rfl rfl HQ
      · replace K := (if_neg hc3).symm.trans K
        refine jx_next (pc := 17) (pc' := 18) rfl rfl ?_
        refine jx_stln (pc := 18) (p2 := [some (.int v0), some (.int v1), some (.int v2), some (.long 1), none, none, none, none]) rfl (jlt rfl) rfl ?_
        refine jx_next (pc := 19) (pc' := 20) rfl rfl ?_
        refine jx_stl (pc := 20) (p2 := [some (.int v0), some (.int v1), some (.int v2), some (.long 1), none, some (.long 1), none, none]) rfl (jlt rfl) rfl ?_
        refine jx_next (pc := 22) (pc' := 23) rfl rfl ?_
        refine jx_sti (pc := 23) (p2 := [some (.int v0), some (.int v1), some (.int v2), some (.long 1), none, some (.long 1), none, some (.int 0)]) rfl (jlt rfl) rfl ?_
        refine jx_le (pl' := [some (.int v0), some (.int v1), some (.int v2), some (.long 1), none, some (.long 1), none, some (.int 0)]) (jle_v (jle_v (jle_v (jle_v (jle_n (jle_v (jle_n (jle_v jle_nil)))))))) ?_
        obtain ⟨x7, hz_x7, K⟩ := Option.bind_eq_some_iff.mp K
        refine kCr_someOf_l25_w hT  hd hz_x7 ?_
        refine jx_next (pc := 78) (pc' := 80) rfl rfl ?_
        refine jx_next (pc := 80) (pc' := 81) rfl rfl ?_
        refine jx_next (pc := 81) (pc' := 82) rfl rfl ?_
        refine jx_stl (pc := 82) (p2 := [some (.int v0), none, none, some (.long x7.1), none, some (.long (x7.2 * x7.1)), none, none]) rfl (jlt rfl) rfl ?_
        refine jx_next (pc := 84) (pc' := 85) rfl rfl ?_
        refine jx_sti (pc := 85) (p2 := [some (.int v0), none, none, some (.long x7.1), none, some (.long (x7.2 * x7.1)), none, some (.int v0)]) rfl (jlt rfl) rfl ?_
        refine jx_le (pl' := [some (.int v0), none, none, none, none, some (.long (x7.2 * x7.1)), none, some (.int v0)]) (jle_v (jle_n (jle_n (jle_n (jle_n (jle_v (jle_n (jle_v jle_nil)))))))) ?_
        obtain ⟨x9, hz_x9, K⟩ := Option.bind_eq_some_iff.mp K
        refine kCr_someOf_l87_w hT  hd hz_x9 ?_
        refine jx_next (pc := 107) (pc' := 108) rfl rfl ?_
        refine jx_sti (pc := 108) (p2 := [some (.int v0), none, none, none, none, some (.long x9), none, some (.int 3)]) rfl (jlt rfl) rfl ?_
        refine jx_le (pl' := [some (.int v0), none, none, none, none, some (.long x9), none, some (.int 3)]) (jle_v (jle_n (jle_n (jle_n (jle_n (jle_v (jle_n (jle_v jle_nil)))))))) ?_
        obtain ⟨x11, hz_x11, K⟩ := Option.bind_eq_some_iff.mp K
        refine kCr_someOf_l110_w hT  hd hz_x11 ?_
        refine jx_next (pc := 130) (pc' := 132) rfl rfl ?_
        obtain rfl := Option.some.inj K
        exact jx_ret (pc := 132) rfl rfl HQ
