noncomputable def fPn_seenCount_l5_j28 (R : jR) (o : Nat) (v1 : Int32) (v2 : Int32) (v3 : Int32) (v4 : Int32) (h : jH) : Option ((Int32 × Int32) ⊕ (Int32)) :=
  some (.inl (v3, v4 + 1))
theorem kPn_seenCount_l5_j28 {X : jX} {d : Nat} {R : jR} {Q : Option Value → jS → Prop} {o : Nat} {v1 : Int32} {v2 : Int32} {v3 : Int32} {v4 : Int32} {h : jH} (hT : jTy R) (ho : jcl 176 o = 10) (hd : 2 ≤ (d + 1)) {z : (Int32 × Int32) ⊕ (Int32)} (K : fPn_seenCount_l5_j28 R o v1 v2 v3 v4 h = some z) (HL : ∀ s : Int32 × Int32, z = .inl s → jEx X (d + 1) jc_150 5 [some (.ref o), some (.int v1), some (.int v2), some (.int s.1), some (.int s.2)] [] (176, R, h) Q) (HE0 : ∀ x : Int32, z = .inr x → jEx X (d + 1) jc_150 34 [none, none, none, some (.int x), none] [] (176, R, h) Q) :
    jEx X (d + 1) jc_150 28 [some (.ref o), some (.int v1), some (.int v2), some (.int v3), some (.int v4)] [] (176, R, h) Q := by
  unfold fPn_seenCount_l5_j28 at K
  refine jx_inc (pc := 28) (x := v4) (p2 := [some (.ref o), some (.int v1), some (.int v2), some (.int v3), some (.int (v4 + 1))]) rfl rfl (jlt rfl) rfl ?_
  refine jx_next (pc := 31) (pc' := 5) rfl rfl ?_
  obtain rfl := Option.some.inj K
  refine jx_le (pl' := [some (.ref o), some (.int v1), some (.int v2), some (.int v3), some (.int (v4 + 1))]) (jle_v (jle_v (jle_v (jle_v (jle_v jle_nil))))) ?_
  exact HL _ rfl
noncomputable def fPn_seenCount_l5_b (R : jR) (o : Nat) (v1 : Int32) (v2 : Int32) (v3 : Int32) (v4 : Int32) (h : jH) : Option ((Int32 × Int32) ⊕ (Int32)) :=
  (if v4 < (fPn_allSets R o h) then
  (Option.bind (fPn_isSeen R o v4 v1 v2 h) (fun (z2 : Int32) =>
  (if z2 = 0 then
  fPn_seenCount_l5_j28 R o v1 v2 v3 v4 h
  else
  fPn_seenCount_l5_j28 R o v1 v2 (v3 + 1) v4 h)))
  else
  some (.inr v3))
noncomputable def fPn_seenCount_l5 (R : jR) (o : Nat) (v1 : Int32) (v2 : Int32) (h : jH) : (Int32 × Int32) → Option ((Int32 × Int32) ⊕ (Int32)) :=
  fun (s : Int32 × Int32) => fPn_seenCount_l5_b R o v1 v2 s.1 s.2 h
theorem kPn_seenCount_l5_b {X : jX} {d : Nat} {R : jR} {Q : Option Value → jS → Prop} {o : Nat} {v1 : Int32} {v2 : Int32} {v3 : Int32} {v4 : Int32} {h : jH} (hT : jTy R) (ho : jcl 176 o = 10) (hd : 2 ≤ (d + 1)) {z : (Int32 × Int32) ⊕ (Int32)} (K : fPn_seenCount_l5_b R o v1 v2 v3 v4 h = some z) (HL : ∀ s : Int32 × Int32, z = .inl s → jEx X (d + 1) jc_150 5 [some (.ref o), some (.int v1), some (.int v2), some (.int s.1), some (.int s.2)] [] (176, R, h) Q) (HE0 : ∀ x : Int32, z = .inr x → jEx X (d + 1) jc_150 34 [none, none, none, some (.int x), none] [] (176, R, h) Q) :
    jEx X (d + 1) jc_150 5 [some (.ref o), some (.int v1), some (.int v2), some (.int v3), some (.int v4)] [] (176, R, h) Q := by
  unfold fPn_seenCount_l5_b at K
  refine jx_next (pc := 5) (pc' := 7) rfl rfl ?_
  refine jx_next (pc := 7) (pc' := 8) rfl rfl ?_
  refine jx_callv (pc := 8) (o := o) (rest := [.int v4]) rfl ⟨by decide, by decide⟩ rfl ho (Nat.le_of_ble_eq_true rfl) ?_
  refine kPn_allSets hT ho (by omega) rfl ?_
  refine jx_icge (pc := 11) rfl (fun hc1 => ?_) (fun hc1 => ?_)
  · replace K := (if_pos hc1).symm.trans K
    refine jx_next (pc := 14) (pc' := 15) rfl rfl ?_
    refine jx_next (pc := 15) (pc' := 17) rfl rfl ?_
    refine jx_next (pc := 17) (pc' := 18) rfl rfl ?_
    refine jx_next (pc := 18) (pc' := 19) rfl rfl ?_
    refine jx_callv (pc := 19) (o := o) (rest := []) rfl ⟨by decide, by decide⟩ rfl ho (Nat.le_of_ble_eq_true rfl) ?_
    obtain ⟨z2, hz_z2, K⟩ := Option.bind_eq_some_iff.mp K
    refine kPn_isSeen hT ho (by omega) hz_z2 ?_
    refine jx_ifeq (pc := 22) rfl (fun hc3 => ?_) (fun hc3 => ?_)
    · replace K := (if_pos hc3).symm.trans K
      refine jx_le (pl' := [some (.ref o), some (.int v1), some (.int v2), some (.int v3), some (.int v4)]) (jle_v (jle_v (jle_v (jle_v (jle_v jle_nil))))) ?_
      exact kPn_seenCount_l5_j28 hT ho hd K HL HE0
    · replace K := (if_neg hc3).symm.trans K
      refine jx_inc (pc := 25) (x := v3) (p2 := [some (.ref o), some (.int v1), some (.int v2), some (.int (v3 + 1)), some (.int v4)]) rfl rfl (jlt rfl) rfl ?_
      refine jx_le (pl' := [some (.ref o), some (.int v1), some (.int v2), some (.int (v3 + 1)), some (.int v4)]) (jle_v (jle_v (jle_v (jle_v (jle_v jle_nil))))) ?_
      exact kPn_seenCount_l5_j28 hT ho hd K HL HE0
  · replace K := (if_neg hc1).symm.trans K
    obtain rfl := Option.some.inj K
    refine jx_le (pl' := [none, none, none, some (.int v3), none]) (jle_n (jle_n (jle_n (jle_v (jle_n jle_nil))))) ?_
    exact HE0 _ rfl
theorem kPn_seenCount_l5_w {X : jX} {d : Nat} {R : jR} {Q : Option Value → jS → Prop} {o : Nat} {v1 : Int32} {v2 : Int32} {h : jH} (hT : jTy R) (ho : jcl 176 o = 10) (hd : 2 ≤ (d + 1)) {s : Int32 × Int32} {x : Int32} (K : jlim (fPn_seenCount_l5 R o v1 v2 h) s = some x) (HE : jEx X (d + 1) jc_150 34 [none, none, none, some (.int x), none] [] (176, R, h) Q) :
    jEx X (d + 1) jc_150 5 [some (.ref o), some (.int v1), some (.int v2), some (.int s.1), some (.int s.2)] [] (176, R, h) Q := by
  refine jlim_ok (G := fun s : Int32 × Int32 => jEx X (d + 1) jc_150 5 [some (.ref o), some (.int v1), some (.int v2), some (.int s.1), some (.int s.2)] [] (176, R, h) Q) (GX := fun x : Int32 => jEx X (d + 1) jc_150 34 [none, none, none, some (.int x), none] [] (176, R, h) Q) (fun s z hz HL HE => ?_) K HE
  exact kPn_seenCount_l5_b hT ho hd hz HL HE
/-- AndGuest$Plan.seenCount(II)I -/
noncomputable def fPn_seenCount (R : jR) (o : Nat) (v1 : Int32) (v2 : Int32) (h : jH) : Option Int32 :=
  (Option.bind (jlim (fPn_seenCount_l5 R o v1 v2 h) (0, 0)) (fun (x4 : Int32) =>
  some (x4 : Int32)))
theorem kPn_seenCount {X : jX} {d : Nat} {R : jR} {Q : Option Value → jS → Prop} {o : Nat} {v1 : Int32} {v2 : Int32} {h : jH} (hT : jTy R) (ho : jcl 176 o = 10) (hd : 2 ≤ d) {z : Int32} (K : fPn_seenCount R o v1 v2 h = some z) (HQ : Q (some (.int z)) (176, R, h)) :
    jCa X d 150 [.ref o, .int v1, .int v2] (176, R, h) Q := by
  obtain ⟨d, rfl⟩ : ∃ d9, d = d9 + 1 := ⟨d - 1, by omega⟩
  unfold fPn_seenCount at K
  refine jCa_of (es := jc_150) (pl := [some (.ref o), some (.int v1), some (.int v2), none, none]) (M := jm_150) rfl rfl rfl rfl ?_
  refine jx_next (pc := 0) (pc' := 1) rfl rfl ?_
  refine jx_stin (pc := 1) (p2 := [some (.ref o), some (.int v1), some (.int v2), some (.int 0), none]) rfl (jlt rfl) rfl ?_
  refine jx_next (pc := 2) (pc' := 3) rfl rfl ?_
  refine jx_sti (pc := 3) (p2 := [some (.ref o), some (.int v1), some (.int v2), some (.int 0), some (.int 0)]) rfl (jlt rfl) rfl ?_
  refine jx_le (pl' := [some (.ref o), some (.int v1), some (.int v2), some (.int 0), some (.int 0)]) (jle_v (jle_v (jle_v (jle_v (jle_v jle_nil))))) ?_
  obtain ⟨x4, hz_x4, K⟩ := Option.bind_eq_some_iff.mp K
  refine kPn_seenCount_l5_w hT ho hd hz_x4 ?_
  refine jx_next (pc := 34) (pc' := 35) rfl rfl ?_
  obtain rfl := Option.some.inj K
  exact jx_iret (pc := 35) rfl HQ
noncomputable def fPn_seenInAll_l13_j41 (R : jR) (o : Nat) (v1 : Int32) (v2 : Int32) (v3 : Int32) (v4 : Int32) (v5 : Int32) (h : jH) : Option ((Int32 × Int32 × Int32) ⊕ (Int32 × Int32)) :=
  some (.inl (v3, v4, v5 + 1))
theorem kPn_seenInAll_l13_j41 {X : jX} {d : Nat} {R : jR} {Q : Option Value → jS → Prop} {o : Nat} {v1 : Int32} {v2 : Int32} {v3 : Int32} {v4 : Int32} {v5 : Int32} {h : jH} (hT : jTy R) (ho : jcl 176 o = 10) (hd : 2 ≤ (d + 1)) {z : (Int32 × Int32 × Int32) ⊕ (Int32 × Int32)} (K : fPn_seenInAll_l13_j41 R o v1 v2 v3 v4 v5 h = some z) (HL : ∀ s : Int32 × Int32 × Int32, z = .inl s → jEx X (d + 1) jc_152 13 [some (.ref o), some (.int v1), some (.int v2), some (.int s.1), some (.int s.2.1), some (.int s.2.2)] [] (176, R, h) Q) (HE0 : ∀ x : Int32 × Int32, z = .inr x → jEx X (d + 1) jc_152 47 [none, none, none, some (.int x.1), some (.int x.2), none] [] (176, R, h) Q) :
    jEx X (d + 1) jc_152 41 [some (.ref o), some (.int v1), some (.int v2), some (.int v3), some (.int v4), some (.int v5)] [] (176, R, h) Q := by
  unfold fPn_seenInAll_l13_j41 at K
  refine jx_inc (pc := 41) (x := v5) (p2 := [some (.ref o), some (.int v1), some (.int v2), some (.int v3), some (.int v4), some (.int (v5 + 1))]) rfl rfl (jlt rfl) rfl ?_
  refine jx_next (pc := 44) (pc' := 13) rfl rfl ?_
  obtain rfl := Option.some.inj K
  refine jx_le (pl' := [some (.ref o), some (.int v1), some (.int v2), some (.int v3), some (.int v4), some (.int (v5 + 1))]) (jle_v (jle_v (jle_v (jle_v (jle_v (jle_v jle_nil)))))) ?_
  exact HL _ rfl
noncomputable def fPn_seenInAll_l13_b (R : jR) (o : Nat) (v1 : Int32) (v2 : Int32) (v3 : Int32) (v4 : Int32) (v5 : Int32) (h : jH) : Option ((Int32 × Int32 × Int32) ⊕ (Int32 × Int32)) :=
  (if v5 < (fPn_allSets R o h) then
  (Option.bind (fPn_isSeen R o v5 v1 v2 h) (fun (z2 : Int32) =>
  (if z2 = 0 then
  fPn_seenInAll_l13_j41 R o v1 v2 v3 v4 v5 h
  else
  fPn_seenInAll_l13_j41 R o v1 v2 (v3 &&& v5) 1 v5 h)))
  else
  some (.inr (v3, v4)))
noncomputable def fPn_seenInAll_l13 (R : jR) (o : Nat) (v1 : Int32) (v2 : Int32) (h : jH) : (Int32 × Int32 × Int32) → Option ((Int32 × Int32 × Int32) ⊕ (Int32 × Int32)) :=
  fun (s : Int32 × Int32 × Int32) => fPn_seenInAll_l13_b R o v1 v2 s.1 s.2.1 s.2.2 h
theorem kPn_seenInAll_l13_b {X : jX} {d : Nat} {R : jR} {Q : Option Value → jS → Prop} {o : Nat} {v1 : Int32} {v2 : Int32} {v3 : Int32} {v4 : Int32} {v5 : Int32} {h : jH} (hT : jTy R) (ho : jcl 176 o = 10) (hd : 2 ≤ (d + 1)) {z : (Int32 × Int32 × Int32) ⊕ (Int32 × Int32)} (K : fPn_seenInAll_l13_b R o v1 v2 v3 v4 v5 h = some z) (HL : ∀ s : Int32 × Int32 × Int32, z = .inl s → jEx X (d + 1) jc_152 13 [some (.ref o), some (.int v1), some (.int v2), some (.int s.1), some (.int s.2.1), some (.int s.2.2)] [] (176, R, h) Q) (HE0 : ∀ x : Int32 × Int32, z = .inr x → jEx X (d + 1) jc_152 47 [none, none, none, some (.int x.1), some (.int x.2), none] [] (176, R, h) Q) :
    jEx X (d + 1) jc_152 13 [some (.ref o), some (.int v1), some (.int v2), some (.int v3), some (.int v4), some (.int v5)] [] (176, R, h) Q := by
  unfold fPn_seenInAll_l13_b at K
  refine jx_next (pc := 13) (pc' := 15) rfl rfl ?_
  refine jx_next (pc := 15) (pc' := 16) rfl rfl ?_
  refine jx_callv (pc := 16) (o := o) (rest := [.int v5]) rfl ⟨by decide, by decide⟩ rfl ho (Nat.le_of_ble_eq_true rfl) ?_
  refine kPn_allSets hT ho (by omega) rfl ?_
  refine jx_icge (pc := 19) rfl (fun hc1 => ?_) (fun hc1 => ?_)
  · replace K := (if_pos hc1).symm.trans K
    refine jx_next (pc := 22) (pc' := 23) rfl rfl ?_
    refine jx_next (pc := 23) (pc' := 25) rfl rfl ?_
    refine jx_next (pc := 25) (pc' := 26) rfl rfl ?_
    refine jx_next (pc := 26) (pc' := 27) rfl rfl ?_
    refine jx_callv (pc := 27) (o := o) (rest := []) rfl ⟨by decide, by decide⟩ rfl ho (Nat.le_of_ble_eq_true rfl) ?_
    obtain ⟨z2, hz_z2, K⟩ := Option.bind_eq_some_iff.mp K
    refine kPn_isSeen hT ho (by omega) hz_z2 ?_
    refine jx_ifeq (pc := 30) rfl (fun hc3 => ?_) (fun hc3 => ?_)
    · replace K := (if_pos hc3).symm.trans K
      refine jx_le (pl' := [some (.ref o), some (.int v1), some (.int v2), some (.int v3), some (.int v4), some (.int v5)]) (jle_v (jle_v (jle_v (jle_v (jle_v (jle_v jle_nil)))))) ?_
      exact kPn_seenInAll_l13_j41 hT ho hd K HL HE0
    · replace K := (if_neg hc3).symm.trans K
      refine jx_next (pc := 33) (pc' := 34) rfl rfl ?_
      refine jx_next (pc := 34) (pc' := 36) rfl rfl ?_
      refine jx_next (pc := 36) (pc' := 37) rfl rfl ?_
      refine jx_stin (pc := 37) (p2 := [some (.ref o), some (.int v1), some (.int v2), some (.int (v3 &&& v5)), some (.int v4), some (.int v5)]) rfl (jlt rfl) rfl ?_
      refine jx_next (pc := 38) (pc' := 39) rfl rfl ?_
      refine jx_sti (pc := 39) (p2 := [some (.ref o), some (.int v1), some (.int v2), some (.int (v3 &&& v5)), some (.int 1), some (.int v5)]) rfl (jlt rfl) rfl ?_
      refine jx_le (pl' := [some (.ref o), some (.int v1), some (.int v2), some (.int (v3 &&& v5)), some (.int 1), some (.int v5)]) (jle_v (jle_v (jle_v (jle_v (jle_v (jle_v jle_nil)))))) ?_
      exact kPn_seenInAll_l13_j41 hT ho hd K HL HE0
  · replace K := (if_neg hc1).symm.trans K
    obtain rfl := Option.some.inj K
    refine jx_le (pl' := [none, none, none, some (.int v3), some (.int v4), none]) (jle_n (jle_n (jle_n (jle_v (jle_v (jle_n jle_nil)))))) ?_
    exact HE0 _ rfl
theorem kPn_seenInAll_l13_w {X : jX} {d : Nat} {R : jR} {Q : Option Value → jS → Prop} {o : Nat} {v1 : Int32} {v2 : Int32} {h : jH} (hT : jTy R) (ho : jcl 176 o = 10) (hd : 2 ≤ (d + 1)) {s : Int32 × Int32 × Int32} {x : Int32 × Int32} (K : jlim (fPn_seenInAll_l13 R o v1 v2 h) s = some x) (HE : jEx X (d + 1) jc_152 47 [none, none, none, some (.int x.1), some (.int x.2), none] [] (176, R, h) Q) :
    jEx X (d + 1) jc_152 13 [some (.ref o), some (.int v1), some (.int v2), some (.int s.1), some (.int s.2.1), some (.int s.2.2)] [] (176, R, h) Q := by
  refine jlim_ok (G := fun s : Int32 × Int32 × Int32 => jEx X (d + 1) jc_152 13 [some (.ref o), some (.int v1), some (.int v2), some (.int s.1), some (.int s.2.1), some (.int s.2.2)] [] (176, R, h) Q) (GX := fun x : Int32 × Int32 => jEx X (d + 1) jc_152 47 [none, none, none, some (.int x.1), some (.int x.2), none] [] (176, R, h) Q) (fun s z hz HL HE => ?_) K HE
  exact kPn_seenInAll_l13_b hT ho hd hz HL HE
/-- AndGuest$Plan.seenInAll(II)I -/
noncomputable def fPn_seenInAll (R : jR) (o : Nat) (v1 : Int32) (v2 : Int32) (h : jH) : Option Int32 :=
  (Option.bind (jlim (fPn_seenInAll_l13 R o v1 v2 h) ((fPn_allSets R o h) - 1, 0, 0)) (fun (x4 : Int32 × Int32) =>
  (if x4.2 = 0 then
  some (0 : Int32)
  else
  some (x4.1 : Int32))))
theorem kPn_seenInAll {X : jX} {d : Nat} {R : jR} {Q : Option Value → jS → Prop} {o : Nat} {v1 : Int32} {v2 : Int32} {h : jH} (hT : jTy R) (ho : jcl 176 o = 10) (hd : 2 ≤ d) {z : Int32} (K : fPn_seenInAll R o v1 v2 h = some z) (HQ : Q (some (.int z)) (176, R, h)) :
    jCa X d 152 [.ref o, .int v1, .int v2] (176, R, h) Q := by
  obtain ⟨d, rfl⟩ : ∃ d9, d = d9 + 1 := ⟨d - 1, by omega⟩
  unfold fPn_seenInAll at K
  refine jCa_of (es := jc_152) (pl := [some (.ref o), some (.int v1), some (.int v2), none, none, none]) (M := jm_152) rfl rfl rfl rfl ?_
  refine jx_next (pc := 0) (pc' := 1) rfl rfl ?_
  refine jx_callv (pc := 1) (o := o) (rest := []) rfl ⟨by decide, by decide⟩ rfl ho (Nat.le_of_ble_eq_true rfl) ?_
  refine kPn_allSets hT ho (by omega) rfl ?_
  refine jx_next (pc := 4) (pc' := 5) rfl rfl ?_
  refine jx_next (pc := 5) (pc' := 6) rfl rfl ?_
  refine jx_stin (pc := 6) (p2 := [some (.ref o), some (.int v1), some (.int v2), some (.int ((fPn_allSets R o h) - 1)), none, none]) rfl (jlt rfl) rfl ?_
  refine jx_next (pc := 7) (pc' := 8) rfl rfl ?_
  refine jx_sti (pc := 8) (p2 := [some (.ref o), some (.int v1), some (.int v2), some (.int ((fPn_allSets R o h) - 1)), some (.int 0), none]) rfl (jlt rfl) rfl ?_
  refine jx_next (pc := 10) (pc' := 11) rfl rfl ?_
  refine jx_sti (pc := 11) (p2 := [some (.ref o), some (.int v1), some (.int v2), some (.int ((fPn_allSets R o h) - 1)), some (.int 0), some (.int 0)]) rfl (jlt rfl) rfl ?_
  refine jx_le (pl' := [some (.ref o), some (.int v1), some (.int v2), some (.int ((fPn_allSets R o h) - 1)), some (.int 0), some (.int 0)]) (jle_v (jle_v (jle_v (jle_v (jle_v (jle_v jle_nil)))))) ?_
  obtain ⟨x4, hz_x4, K⟩ := Option.bind_eq_some_iff.mp K
  refine kPn_seenInAll_l13_w hT ho hd hz_x4 ?_
  refine jx_next (pc := 47) (pc' := 49) rfl rfl ?_
  refine jx_ifeq (pc := 49) rfl (fun hc5 => ?_) (fun hc5 => ?_)
  · replace K := (if_pos hc5).symm.trans K
    refine jx_next (pc := 56) (pc' := 57) rfl rfl ?_
    obtain rfl := Option.some.inj K
    exact jx_iret (pc := 57) rfl HQ
  · replace K := (if_neg hc5).symm.trans K
    refine jx_next (pc := 52) (pc' := 53) rfl rfl ?_
    refine jx_next (pc := 53) (pc' := 57) rfl rfl ?_
    obtain rfl := Option.some.inj K
    exact jx_iret (pc := 57) rfl HQ
noncomputable def fPn_seenInSome_l5_j30 (R : jR) (o : Nat) (v1 : Int32) (v2 : Int32) (v3 : Int32) (v4 : Int32) (h : jH) : Option ((Int32 × Int32) ⊕ (Int32)) :=
  some (.inl (v3, v4 + 1))
theorem kPn_seenInSome_l5_j30 {X : jX} {d : Nat} {R : jR} {Q : Option Value → jS → Prop} {o : Nat} {v1 : Int32} {v2 : Int32} {v3 : Int32} {v4 : Int32} {h : jH} (hT : jTy R) (ho : jcl 176 o = 10) (hd : 2 ≤ (d + 1)) {z : (Int32 × Int32) ⊕ (Int32)} (K : fPn_seenInSome_l5_j30 R o v1 v2 v3 v4 h = some z) (HL : ∀ s : Int32 × Int32, z = .inl s → jEx X (d + 1) jc_153 5 [some (.ref o), some (.int v1), some (.int v2), some (.int s.1), some (.int s.2)] [] (176, R, h) Q) (HE0 : ∀ x : Int32, z = .inr x → jEx X (d + 1) jc_153 36 [none, none, none, some (.int x), none] [] (176, R, h) Q) :
    jEx X (d + 1) jc_153 30 [some (.ref o), some (.int v1), some (.int v2), some (.int v3), some (.int v4)] [] (176, R, h) Q := by
  unfold fPn_seenInSome_l5_j30 at K
  refine jx_inc (pc := 30) (x := v4) (p2 := [some (.ref o), some (.int v1), some (.int v2), some (.int v3), some (.int (v4 + 1))]) rfl rfl (jlt rfl) rfl ?_
  refine jx_next (pc := 33) (pc' := 5) rfl rfl ?_
  obtain rfl := Option.some.inj K
  refine jx_le (pl' := [some (.ref o), some (.int v1), some (.int v2), some (.int v3), some (.int (v4 + 1))]) (jle_v (jle_v (jle_v (jle_v (jle_v jle_nil))))) ?_
  exact HL _ rfl
noncomputable def fPn_seenInSome_l5_b (R : jR) (o : Nat) (v1 : Int32) (v2 : Int32) (v3 : Int32) (v4 : Int32) (h : jH) : Option ((Int32 × Int32) ⊕ (Int32)) :=
  (if v4 < (fPn_allSets R o h) then
  (Option.bind (fPn_isSeen R o v4 v1 v2 h) (fun (z2 : Int32) =>
  (if z2 = 0 then
  fPn_seenInSome_l5_j30 R o v1 v2 v3 v4 h
  else
  fPn_seenInSome_l5_j30 R o v1 v2 (v3 ||| v4) v4 h)))
  else
  some (.inr v3))
noncomputable def fPn_seenInSome_l5 (R : jR) (o : Nat) (v1 : Int32) (v2 : Int32) (h : jH) : (Int32 × Int32) → Option ((Int32 × Int32) ⊕ (Int32)) :=
  fun (s : Int32 × Int32) => fPn_seenInSome_l5_b R o v1 v2 s.1 s.2 h
theorem kPn_seenInSome_l5_b {X : jX} {d : Nat} {R : jR} {Q : Option Value → jS → Prop} {o : Nat} {v1 : Int32} {v2 : Int32} {v3 : Int32} {v4 : Int32} {h : jH} (hT : jTy R) (ho : jcl 176 o = 10) (hd : 2 ≤ (d + 1)) {z : (Int32 × Int32) ⊕ (Int32)} (K : fPn_seenInSome_l5_b R o v1 v2 v3 v4 h = some z) (HL : ∀ s : Int32 × Int32, z = .inl s → jEx X (d + 1) jc_153 5 [some (.ref o), some (.int v1), some (.int v2), some (.int s.1), some (.int s.2)] [] (176, R, h) Q) (HE0 : ∀ x : Int32, z = .inr x → jEx X (d + 1) jc_153 36 [none, none, none, some (.int x), none] [] (176, R, h) Q) :
    jEx X (d + 1) jc_153 5 [some (.ref o), some (.int v1), some (.int v2), some (.int v3), some (.int v4)] [] (176, R, h) Q := by
  unfold fPn_seenInSome_l5_b at K
  refine jx_next (pc := 5) (pc' := 7) rfl rfl ?_
  refine jx_next (pc := 7) (pc' := 8) rfl rfl ?_
  refine jx_callv (pc := 8) (o := o) (rest := [.int v4]) rfl ⟨by decide, by decide⟩ rfl ho (Nat.le_of_ble_eq_true rfl) ?_
  refine kPn_allSets hT ho (by omega) rfl ?_
  refine jx_icge (pc := 11) rfl (fun hc1 => ?_) (fun hc1 => ?_)
  · replace K := (if_pos hc1).symm.trans K
    refine jx_next (pc := 14) (pc' := 15) rfl rfl ?_
    refine jx_next (pc := 15) (pc' := 17) rfl rfl ?_
    refine jx_next (pc := 17) (pc' := 18) rfl rfl ?_
    refine jx_next (pc := 18) (pc' := 19) rfl rfl ?_
    refine jx_callv (pc := 19) (o := o) (rest := []) rfl ⟨by decide, by decide⟩ rfl ho (Nat.le_of_ble_eq_true rfl) ?_
    obtain ⟨z2, hz_z2, K⟩ := Option.bind_eq_some_iff.mp K
    refine kPn_isSeen hT ho (by omega) hz_z2 ?_
    refine jx_ifeq (pc := 22) rfl (fun hc3 => ?_) (fun hc3 => ?_)
    · replace K := (if_pos hc3).symm.trans K
      refine jx_le (pl' := [some (.ref o), some (.int v1), some (.int v2), some (.int v3), some (.int v4)]) (jle_v (jle_v (jle_v (jle_v (jle_v jle_nil))))) ?_
      exact kPn_seenInSome_l5_j30 hT ho hd K HL HE0
    · replace K := (if_neg hc3).symm.trans K
      refine jx_next (pc := 25) (pc' := 26) rfl rfl ?_
      refine jx_next (pc := 26) (pc' := 28) rfl rfl ?_
      refine jx_next (pc := 28) (pc' := 29) rfl rfl ?_
      refine jx_stin (pc := 29) (p2 := [some (.ref o), some (.int v1), some (.int v2), some (.int (v3 ||| v4)), some (.int v4)]) rfl (jlt rfl) rfl ?_
      refine jx_le (pl' := [some (.ref o), some (.int v1), some (.int v2), some (.int (v3 ||| v4)), some (.int v4)]) (jle_v (jle_v (jle_v (jle_v (jle_v jle_nil))))) ?_
      exact kPn_seenInSome_l5_j30 hT ho hd K HL HE0
  · replace K := (if_neg hc1).symm.trans K
    obtain rfl := Option.some.inj K
    refine jx_le (pl' := [none, none, none, some (.int v3), none]) (jle_n (jle_n (jle_n (jle_v (jle_n jle_nil))))) ?_
    exact HE0 _ rfl
theorem kPn_seenInSome_l5_w {X : jX} {d : Nat} {R : jR} {Q : Option Value → jS → Prop} {o : Nat} {v1 : Int32} {v2 : Int32} {h : jH} (hT : jTy R) (ho : jcl 176 o = 10) (hd : 2 ≤ (d + 1)) {s : Int32 × Int32} {x : Int32} (K : jlim (fPn_seenInSome_l5 R o v1 v2 h) s = some x) (HE : jEx X (d + 1) jc_153 36 [none, none, none, some (.int x), none] [] (176, R, h) Q) :
    jEx X (d + 1) jc_153 5 [some (.ref o), some (.int v1), some (.int v2), some (.int s.1), some (.int s.2)] [] (176, R, h) Q := by
  refine jlim_ok (G := fun s : Int32 × Int32 => jEx X (d + 1) jc_153 5 [some (.ref o), some (.int v1), some (.int v2), some (.int s.1), some (.int s.2)] [] (176, R, h) Q) (GX := fun x : Int32 => jEx X (d + 1) jc_153 36 [none, none, none, some (.int x), none] [] (176, R, h) Q) (fun s z hz HL HE => ?_) K HE
  exact kPn_seenInSome_l5_b hT ho hd hz HL HE
/-- AndGuest$Plan.seenInSome(II)I -/
noncomputable def fPn_seenInSome (R : jR) (o : Nat) (v1 : Int32) (v2 : Int32) (h : jH) : Option Int32 :=
  (Option.bind (jlim (fPn_seenInSome_l5 R o v1 v2 h) (0, 0)) (fun (x4 : Int32) =>
  some (x4 : Int32)))
theorem kPn_seenInSome {X : jX} {d : Nat} {R : jR} {Q : Option Value → jS → Prop} {o : Nat} {v1 : Int32} {v2 : Int32} {h : jH} (hT : jTy R) (ho : jcl 176 o = 10) (hd : 2 ≤ d) {z : Int32} (K : fPn_seenInSome R o v1 v2 h = some z) (HQ : Q (some (.int z)) (176, R, h)) :
    jCa X d 153 [.ref o, .int v1, .int v2] (176, R, h) Q := by
  obtain ⟨d, rfl⟩ : ∃ d9, d = d9 + 1 := ⟨d - 1, by omega⟩
  unfold fPn_seenInSome at K
  refine jCa_of (es := jc_153) (pl := [some (.ref o), some (.int v1), some (.int v2), none, none]) (M := jm_153) rfl rfl rfl rfl ?_
  refine jx_next (pc := 0) (pc' := 1) rfl rfl ?_
  refine jx_stin (pc := 1) (p2 := [some (.ref o), some (.int v1), some (.int v2), some (.int 0), none]) rfl (jlt rfl) rfl ?_
  refine jx_next (pc := 2) (pc' := 3) rfl rfl ?_
  refine jx_sti (pc := 3) (p2 := [some (.ref o), some (.int v1), some (.int v2), some (.int 0), some (.int 0)]) rfl (jlt rfl) rfl ?_
  refine jx_le (pl' := [some (.ref o), some (.int v1), some (.int v2), some (.int 0), some (.int 0)]) (jle_v (jle_v (jle_v (jle_v (jle_v jle_nil))))) ?_
  obtain ⟨x4, hz_x4, K⟩ := Option.bind_eq_some_iff.mp K
  refine kPn_seenInSome_l5_w hT ho hd hz_x4 ?_
  refine jx_next (pc := 36) (pc' := 37) rfl rfl ?_
  obtain rfl := Option.some.inj K
  exact jx_iret (pc := 37) rfl HQ
/-- AndGuest.seen(III)I -/
noncomputable def fA_seen (R : jR) (o : Nat) (v1 : Int32) (v2 : Int32) (v3 : Int32) (h : jH) : Option Int32 :=
  (if (h.1 o 12) = 0 then
  some ((-1) : Int32)
  else
  (if v1 < 0 then
  some ((-1) : Int32)
  else
  (if 32 < v1 then
  some ((-1) : Int32)
  else
  (if v2 < 0 then
  some ((-1) : Int32)
  else
  (if 792 < v2 then
  some ((-1) : Int32)
  else
  (if v3 = 0 then
  (Option.bind (fPn_seenCount R (fPy_plan R (R o 8) h) v1 v2 h) (fun (z6 : Int32) =>
  some (z6 : Int32)))
  else
  (if v3 = 1 then
  (Option.bind (fPn_seenInAll R (fPy_plan R (R o 8) h) v1 v2 h) (fun (z7 : Int32) =>
  some (z7 : Int32)))
  else
  (if v3 = 2 then
  (Option.bind (fPn_seenInSome R (fPy_plan R (R o 8) h) v1 v2 h) (fun (z8 : Int32) =>
  some (z8 : Int32)))
  else
  some ((-1) : Int32)))))))))
theorem kA_seen {X : jX} {d : Nat} {R : jR} {Q : Option Value → jS → Prop} {o : Nat} {v1 : Int32} {v2 : Int32} {v3 : Int32} {h : jH} (hT : jTy R) (ho : jcl 176 o = 1) (hd : 3 ≤ d) {z : Int32} (K : fA_seen R o v1 v2 v3 h = some z) (HQ : Q (some (.int z)) (176, R, h)) :
    jCa X d 149 [.ref o, .int v1, .int v2, .int v3] (176, R, h) Q := by
  obtain ⟨d, rfl⟩ : ∃ d9, d = d9 + 1 := ⟨d - 1, by omega⟩
  unfold fA_seen at K
  refine jCa_of (es := jc_149) (pl := [some (.ref o), some (.int v1), some (.int v2), some (.int v3)]) (M := jm_149) rfl rfl rfl rfl ?_
  refine jx_next (pc := 0) (pc' := 1) rfl rfl ?_
  refine jx_getz (pc := 1) rfl ho ?_
  refine jx_ifeq (pc := 4) rfl (fun hc1 => ?_) (fun hc1 => ?_)
  · replace K := (if_pos hc1).symm.trans K
    refine jx_next (pc := 28) (pc' := 29) rfl rfl ?_
    obtain rfl := Option.some.inj K
    exact jx_iret (pc := 29) rfl HQ
  · replace K := (if_neg hc1).symm.trans K
    refine jx_next (pc := 7) (pc' := 8) rfl rfl ?_
    refine jx_iflt (pc := 8) rfl (fun hc2 => ?_) (fun hc2 => ?_)
    · replace K := (if_pos hc2).symm.trans K
      refine jx_next (pc := 28) (pc' := 29) rfl rfl ?_
      obtain rfl := Option.some.inj K
      exact jx_iret (pc := 29) rfl HQ
    · replace K := (if_neg hc2).symm.trans K
      refine jx_next (pc := 11) (pc' := 12) rfl rfl ?_
      refine jx_next (pc := 12) (pc' := 14) rfl rfl ?_
      refine jx_icgt (pc := 14) rfl (fun hc3 => ?_) (fun hc3 => ?_)
      · replace K := (if_pos hc3).symm.trans K
        refine jx_next (pc := 28) (pc' := 29) rfl rfl ?_
        obtain rfl := Option.some.inj K
        exact jx_iret (pc := 29) rfl HQ
      · replace K := (if_neg hc3).symm.trans K
        refine jx_next (pc := 17) (pc' := 18) rfl rfl ?_
        refine jx_iflt (pc := 18) rfl (fun hc4 => ?_) (fun hc4 => ?_)
        · replace K := (if_pos hc4).symm.trans K
          refine jx_next (pc := 28) (pc' := 29) rfl rfl ?_
          obtain rfl := Option.some.inj K
          exact jx_iret (pc := 29) rfl HQ
        · replace K := (if_neg hc4).symm.trans K
          refine jx_next (pc := 21) (pc' := 22) rfl rfl ?_
          refine jx_next (pc := 22) (pc' := 25) rfl rfl ?_
          refine jx_icle (pc := 25) rfl (fun hc5 => ?_) (fun hc5 => ?_)
          · replace K := (if_pos hc5).symm.trans K
            refine jx_next (pc := 28) (pc' := 29) rfl rfl ?_
            obtain rfl := Option.some.inj K
            exact jx_iret (pc := 29) rfl HQ
          · replace K := (if_neg hc5).symm.trans K
            refine jx_next (pc := 30) (pc' := 31) rfl rfl ?_
            refine jx_tsw (pc := 31) rfl ?_
            refine jx_sw1 (fun hc11 => ?_) (fun hc11 => ?_)
            · replace K := (if_pos hc11).symm.trans K
              refine jx_next (pc := 56) (pc' := 57) rfl rfl ?_
              refine jx_getr (pc := 57) rfl ho ?_
              refine jx_callv (pc := 60) (o := (R o 8)) (rest := []) rfl ⟨by decide, by decide⟩ rfl (jtR hT ho (k := 8) (c := 8) rfl) (Nat.le_of_ble_eq_true rfl) ?_
              refine kPy_plan hT (jtR hT ho (k := 8) (c := 8) rfl) (by omega) rfl ?_
              refine jx_next (pc := 63) (pc' := 64) rfl rfl ?_
              refine jx_next (pc := 64) (pc' := 65) rfl rfl ?_
              refine jx_callv (pc := 65) (o := (fPy_plan R (R o 8) h)) (rest := []) rfl ⟨by decide, by decide⟩ rfl (kPy_plan_c hT (jtR hT ho (k := 8) (c := 8) rfl)) (Nat.le_of_ble_eq_true rfl) ?_
              obtain ⟨z6, hz_z6, K⟩ := Option.bind_eq_some_iff.mp K
              refine kPn_seenCount hT (kPy_plan_c hT (jtR hT ho (k := 8) (c := 8) rfl)) (by omega) hz_z6 ?_
              obtain rfl := Option.some.inj K
              exact jx_iret (pc := 68) rfl HQ
            · replace K := (if_neg hc11).symm.trans K
              refine jx_sw1 (fun hc10 => ?_) (fun hc10 => ?_)
              · replace K := (if_pos hc10).symm.trans K
                refine jx_next (pc := 69) (pc' := 70) rfl rfl ?_
                refine jx_getr (pc := 70) rfl ho ?_
                refine jx_callv (pc := 73) (o := (R o 8)) (rest := []) rfl ⟨by decide, by decide⟩ rfl (jtR hT ho (k := 8) (c := 8) rfl) (Nat.le_of_ble_eq_true rfl) ?_
                refine kPy_plan hT (jtR hT ho (k := 8) (c := 8) rfl) (by omega) rfl ?_
                refine jx_next (pc := 76) (pc' := 77) rfl rfl ?_
                refine jx_next (pc := 77) (pc' := 78) rfl rfl ?_
                refine jx_callv (pc := 78) (o := (fPy_plan R (R o 8) h)) (rest := []) rfl ⟨by decide, by decide⟩ rfl (kPy_plan_c hT (jtR hT ho (k := 8) (c := 8) rfl)) (Nat.le_of_ble_eq_true rfl) ?_
                obtain ⟨z7, hz_z7, K⟩ := Option.bind_eq_some_iff.mp K
                refine kPn_seenInAll hT (kPy_plan_c hT (jtR hT ho (k := 8) (c := 8) rfl)) (by omega) hz_z7 ?_
                obtain rfl := Option.some.inj K
                exact jx_iret (pc := 81) rfl HQ
              · replace K := (if_neg hc10).symm.trans K
                refine jx_sw1 (fun hc9 => ?_) (fun hc9 => ?_)
                · replace K := (if_pos hc9).symm.trans K
                  refine jx_next (pc := 82) (pc' := 83) rfl rfl ?_
                  refine jx_getr (pc := 83) rfl ho ?_
                  refine jx_callv (pc := 86) (o := (R o 8)) (rest := []) rfl ⟨by decide, by decide⟩ rfl (jtR hT ho (k := 8) (c := 8) rfl) (Nat.le_of_ble_eq_true rfl) ?_
                  refine kPy_plan hT (jtR hT ho (k := 8) (c := 8) rfl) (by omega) rfl ?_
                  refine jx_next (pc := 89) (pc' := 90) rfl rfl ?_
                  refine jx_next (pc := 90) (pc' := 91) rfl rfl ?_
                  refine jx_callv (pc := 91) (o := (fPy_plan R (R o 8) h)) (rest := []) rfl ⟨by decide, by decide⟩ rfl (kPy_plan_c hT (jtR hT ho (k := 8) (c := 8) rfl)) (Nat.le_of_ble_eq_true rfl) ?_
                  obtain ⟨z8, hz_z8, K⟩ := Option.bind_eq_some_iff.mp K
                  refine kPn_seenInSome hT (kPy_plan_c hT (jtR hT ho (k := 8) (c := 8) rfl)) (by omega) hz_z8 ?_
                  obtain rfl := Option.some.inj K
                  exact jx_iret (pc := 94) rfl HQ
                · replace K := (if_neg hc9).symm.trans K
                  refine jx_sw0 ?_
                  refine jx_next (pc := 95) (pc' := 96) rfl rfl ?_
                  obtain rfl := Option.some.inj K
                  exact jx_iret (pc := 96) rfl HQ
noncomputable def fSd_copyFrom_l18_b (R : jR) (o : Nat) (v1 : Nat) (v2 : Int32) (h : jH) : Option ((Int32 × jH) ⊕ (jH)) :=
  (if v2 < 8 then
  (if jin v2 (jsh (R v1 2)).2 then
  (if jin v2 (jsh (R o 2)).2 then
  (if jin v2 (jsh (R v1 3)).2 then
  (if jin v2 (jsh (R o 3)).2 then
  some (.inl (v2 + 1, jhI (jhI h (R o 2) v2.toNatClampNeg (h.1 (R v1 2) v2.toNatClampNeg)) (R o 3) v2.toNatClampNeg ((jhI h (R o 2) v2.toNatClampNeg (h.1 (R v1 2) v2.toNatClampNeg)).1 (R v1 3) v2.toNatClampNeg)))
  else none)
  else none)
  else none)
  else none)
  else
  some (.inr h))
noncomputable def fSd_copyFrom_l18 (R : jR) (o : Nat) (v1 : Nat) : (Int32 × jH) → Option ((Int32 × jH) ⊕ (jH)) :=
  fun (s : Int32 × jH) => fSd_copyFrom_l18_b R o v1 s.1 s.2
theorem kSd_copyFrom_l18_b {X : jX} {d : Nat} {R : jR} {Q : Option Value → jS → Prop} {o : Nat} {v1 : Nat} {v2 : Int32} {h : jH} (hT : jTy R) (ho : jcl 176 o = 6) (hv1 : jcl 176 v1 = 6) (hd : 0 ≤ d) {z : (Int32 × jH) ⊕ (jH)} (K : fSd_copyFrom_l18_b R o v1 v2 h = some z) (HL : ∀ s : Int32 × jH, z = .inl s → jEx X d jc_157 18 [some (.ref o), some (.ref v1), some (.int s.1)] [] (176, R, s.2) Q) (HE0 : ∀ x : jH, z = .inr x → jEx X d jc_157 54 [none, none, none] [] (176, R, x) Q) :
    jEx X d jc_157 18 [some (.ref o), some (.ref v1), some (.int v2)] [] (176, R, h) Q := by
  unfold fSd_copyFrom_l18_b at K
  refine jx_next (pc := 18) (pc' := 19) rfl rfl ?_
  refine jx_next (pc := 19) (pc' := 21) rfl rfl ?_
  refine jx_icge (pc := 21) rfl (fun hc1 => ?_) (fun hc1 => ?_)
  · replace K := (if_pos hc1).symm.trans K
    refine jx_next (pc := 24) (pc' := 25) rfl rfl ?_
    refine jx_getr (pc := 25) rfl ho ?_
    refine jx_next (pc := 28) (pc' := 29) rfl rfl ?_
    refine jx_next (pc := 29) (pc' := 30) rfl rfl ?_
    refine jx_getr (pc := 30) rfl hv1 ?_
    refine jx_next (pc := 33) (pc' := 34) rfl rfl ?_
    obtain ⟨hg2, K⟩ := jguard K
    refine jx_iald (pc := 34) rfl (jtR hT hv1 (k := 2) (c := 20) rfl) hg2 ?_
    obtain ⟨hg3, K⟩ := jguard K
    refine jx_iast (pc := 35) rfl (jtR hT ho (k := 2) (c := 20) rfl) hg3 ?_
    refine jx_next (pc := 36) (pc' := 37) rfl rfl ?_
    refine jx_getr (pc := 37) rfl ho ?_
    refine jx_next (pc := 40) (pc' := 41) rfl rfl ?_
    refine jx_next (pc := 41) (pc' := 42) rfl rfl ?_
    refine jx_getr (pc := 42) rfl hv1 ?_
    refine jx_next (pc := 45) (pc' := 46) rfl rfl ?_
    obtain ⟨hg4, K⟩ := jguard K
    refine jx_iald (pc := 46) rfl (jtR hT hv1 (k := 3) (c := 20) rfl) hg4 ?_
    obtain ⟨hg5, K⟩ := jguard K
    refine jx_iast (pc := 47) rfl (jtR hT ho (k := 3) (c := 20) rfl) hg5 ?_
    refine jx_inc (pc := 48) (x := v2) (p2 := [some (.ref o), some (.ref v1), some (.int (v2 + 1))]) rfl rfl (jlt rfl) rfl ?_
    refine jx_next (pc := 51) (pc' := 18) rfl rfl ?_
    obtain rfl := Option.some.inj K
    refine jx_le (pl' := [some (.ref o), some (.ref v1), some (.int (v2 + 1))]) (jle_v (jle_v (jle_v jle_nil))) ?_
    exact HL _ rfl
  · replace K := (if_neg hc1).symm.trans K
    obtain rfl := Option.some.inj K
    refine jx_le (pl' := [none, none, none]) (jle_n (jle_n (jle_n jle_nil))) ?_
    exact HE0 _ rfl
theorem kSd_copyFrom_l18_w {X : jX} {d : Nat} {R : jR} {Q : Option Value → jS → Prop} {o : Nat} {v1 : Nat} (hT : jTy R) (ho : jcl 176 o = 6) (hv1 : jcl 176 v1 = 6) (hd : 0 ≤ d) {s : Int32 × jH} {x : jH} (K : jlim (fSd_copyFrom_l18 R o v1) s = some x) (HE : jEx X d jc_157 54 [none, none, none] [] (176, R, x) Q) :
    jEx X d jc_157 18 [some (.ref o), some (.ref v1), some (.int s.1)] [] (176, R, s.2) Q := by
  refine jlim_ok (G := fun s : Int32 × jH => jEx X d jc_157 18 [some (.ref o), some (.ref v1), some (.int s.1)] [] (176, R, s.2) Q) (GX := fun x : jH => jEx X d jc_157 54 [none, none, none] [] (176, R, x) Q) (fun s z hz HL HE => ?_) K HE
  exact kSd_copyFrom_l18_b hT ho hv1 hd hz HL HE
/-- AndGuest$Standing.copyFrom(LAndGuest$Standing;)V -/
noncomputable def fSd_copyFrom (R : jR) (o : Nat) (v1 : Nat) (h : jH) : Option jH :=
  (Option.bind (jlim (fSd_copyFrom_l18 R o v1) (0, jhI (jhI h o 0 (h.1 v1 0)) o 1 ((jhI h o 0 (h.1 v1 0)).1 v1 1))) (fun (x6 : jH) =>
  some x6))
theorem kSd_copyFrom {X : jX} {d : Nat} {R : jR} {Q : Option Value → jS → Prop} {o : Nat} {v1 : Nat} {h : jH} (hT : jTy R) (ho : jcl 176 o = 6) (hv1 : jcl 176 v1 = 6) (hd : 0 ≤ d) {z : jH} (K : fSd_copyFrom R o v1 h = some z) (HQ : Q none (176, R, z)) :
    jCa X d 157 [.ref o, .ref v1] (176, R, h) Q := by
  unfold fSd_copyFrom at K
  refine jCa_of (es := jc_157) (pl := [some (.ref o), some (.ref v1), none]) (M := jm_157) rfl rfl rfl rfl ?_
  refine jx_next (pc := 0) (pc' := 1) rfl rfl ?_
  refine jx_next (pc := 1) (pc' := 2) rfl rfl ?_
  refine jx_geti (pc := 2) rfl hv1 ?_
  refine jx_puti (pc := 5) rfl ho ?_
  refine jx_next (pc := 8) (pc' := 9) rfl rfl ?_
  refine jx_next (pc := 9) (pc' := 10) rfl rfl ?_
  refine jx_geti (pc := 10) rfl hv1 ?_
  refine jx_puti (pc := 13) rfl ho ?_
  refine jx_next (pc := 16) (pc' := 17) rfl rfl ?_
  refine jx_stin (pc := 17) (p2 := [some (.ref o), some (.ref v1), some (.int 0)]) rfl (jlt rfl) rfl ?_
  refine jx_le (pl' := [some (.ref o), some (.ref v1), some (.int 0)]) (jle_v (jle_v (jle_v jle_nil))) ?_
  obtain ⟨x6, hz_x6, K⟩ := Option.bind_eq_some_iff.mp K
  refine kSd_copyFrom_l18_w hT ho hv1 hd hz_x6 ?_
  obtain rfl := Option.some.inj K
  exact jx_ret (pc := 54) rfl rfl HQ
noncomputable def fSd_sendTo_l7_j36 (R : jR) (o : Nat) (v1 : Int32) (v2 : Int32) (v3 : Int32) (h : jH) : Option ((Int32 × jH) ⊕ (jH)) :=
  some (.inl (v3 + 1, h))
theorem kSd_sendTo_l7_j36 {X : jX} {d : Nat} {R : jR} {Q : Option Value → jS → Prop} {o : Nat} {v1 : Int32} {v2 : Int32} {v3 : Int32} {h : jH} (hT : jTy R) (ho : jcl 176 o = 6) (hd : 1 ≤ (d + 1)) {z : (Int32 × jH) ⊕ (jH)} (K : fSd_sendTo_l7_j36 R o v1 v2 v3 h = some z) (HL : ∀ s : Int32 × jH, z = .inl s → jEx X (d + 1) jc_158 7 [some (.ref o), some (.int v1), some (.int v2), some (.int s.1)] [] (176, R, s.2) Q) (HE0 : ∀ x : jH, z = .inr x → jEx X (d + 1) jc_158 42 [some (.ref o), none, none, none] [] (176, R, x) Q) :
    jEx X (d + 1) jc_158 36 [some (.ref o), some (.int v1), some (.int v2), some (.int v3)] [] (176, R, h) Q := by
  unfold fSd_sendTo_l7_j36 at K
  refine jx_inc (pc := 36) (x := v3) (p2 := [some (.ref o), some (.int v1), some (.int v2), some (.int (v3 + 1))]) rfl rfl (jlt rfl) rfl ?_
  refine jx_next (pc := 39) (pc' := 7) rfl rfl ?_
  obtain rfl := Option.some.inj K
  refine jx_le (pl' := [some (.ref o), some (.int v1), some (.int v2), some (.int (v3 + 1))]) (jle_v (jle_v (jle_v (jle_v jle_nil)))) ?_
  exact HL _ rfl
noncomputable def fSd_sendTo_l7_b (R : jR) (o : Nat) (v1 : Int32) (v2 : Int32) (v3 : Int32) (h : jH) : Option ((Int32 × jH) ⊕ (jH)) :=
  (if v3 < 8 then
  (if ((v1 >>> (v3 &&& 31)) &&& 1) = 1 then
  (if jin v3 (jsh (R o 2)).2 then
  (if jin v3 (jsh (R o 3)).2 then
  fSd_sendTo_l7_j36 R o v1 v2 v3 (jhI (jhI h (R o 2) v3.toNatClampNeg 1) (R o 3) v3.toNatClampNeg v2)
  else none)
  else none)
  else
  fSd_sendTo_l7_j36 R o v1 v2 v3 h)
  else
  some (.inr h))
noncomputable def fSd_sendTo_l7 (R : jR) (o : Nat) (v1 : Int32) (v2 : Int32) : (Int32 × jH) → Option ((Int32 × jH) ⊕ (jH)) :=
  fun (s : Int32 × jH) => fSd_sendTo_l7_b R o v1 v2 s.1 s.2
theorem kSd_sendTo_l7_b {X : jX} {d : Nat} {R : jR} {Q : Option Value → jS → Prop} {o : Nat} {v1 : Int32} {v2 : Int32} {v3 : Int32} {h : jH} (hT : jTy R) (ho : jcl 176 o = 6) (hd : 1 ≤ (d + 1)) {z : (Int32 × jH) ⊕ (jH)} (K : fSd_sendTo_l7_b R o v1 v2 v3 h = some z) (HL : ∀ s : Int32 × jH, z = .inl s → jEx X (d + 1) jc_158 7 [some (.ref o), some (.int v1), some (.int v2), some (.int s.1)] [] (176, R, s.2) Q) (HE0 : ∀ x : jH, z = .inr x → jEx X (d + 1) jc_158 42 [some (.ref o), none, none, none] [] (176, R, x) Q) :
    jEx X (d + 1) jc_158 7 [some (.ref o), some (.int v1), some (.int v2), some (.int v3)] [] (176, R, h) Q := by
  unfold fSd_sendTo_l7_b at K
  refine jx_next (pc := 7) (pc' := 8) rfl rfl ?_
  refine jx_next (pc := 8) (pc' := 10) rfl rfl ?_
  refine jx_icge (pc := 10) rfl (fun hc1 => ?_) (fun hc1 => ?_)
  · replace K := (if_pos hc1).symm.trans K
    refine jx_next (pc := 13) (pc' := 14) rfl rfl ?_
    refine jx_next (pc := 14) (pc' := 15) rfl rfl ?_
    refine jx_next (pc := 15) (pc' := 16) rfl rfl ?_
    refine jx_next (pc := 16) (pc' := 17) rfl rfl ?_
    refine jx_next (pc := 17) (pc' := 18) rfl rfl ?_
    refine jx_next (pc := 18) (pc' := 19) rfl rfl ?_
    refine jx_icne (pc := 19) rfl (fun hc2 => ?_) (fun hc2 => ?_)
    · replace K := (if_pos hc2).symm.trans K
      refine jx_next (pc := 22) (pc' := 23) rfl rfl ?_
      refine jx_getr (pc := 23) rfl ho ?_
      refine jx_next (pc := 26) (pc' := 27) rfl rfl ?_
      refine jx_next (pc := 27) (pc' := 28) rfl rfl ?_
      obtain ⟨hg3, K⟩ := jguard K
      refine jx_iast (pc := 28) rfl (jtR hT ho (k := 2) (c := 20) rfl) hg3 ?_
      refine jx_next (pc := 29) (pc' := 30) rfl rfl ?_
      refine jx_getr (pc := 30) rfl ho ?_
      refine jx_next (pc := 33) (pc' := 34) rfl rfl ?_
      refine jx_next (pc := 34) (pc' := 35) rfl rfl ?_
      obtain ⟨hg4, K⟩ := jguard K
      refine jx_iast (pc := 35) rfl (jtR hT ho (k := 3) (c := 20) rfl) hg4 ?_
      refine jx_le (pl' := [some (.ref o), some (.int v1), some (.int v2), some (.int v3)]) (jle_v (jle_v (jle_v (jle_v jle_nil)))) ?_
      exact kSd_sendTo_l7_j36 hT ho hd K HL HE0
    · replace K := (if_neg hc2).symm.trans K
      refine jx_le (pl' := [some (.ref o), some (.int v1), some (.int v2), some (.int v3)]) (jle_v (jle_v (jle_v (jle_v jle_nil)))) ?_
      exact kSd_sendTo_l7_j36 hT ho hd K HL HE0
  · replace K := (if_neg hc1).symm.trans K
    obtain rfl := Option.some.inj K
    refine jx_le (pl' := [some (.ref o), none, none, none]) (jle_v (jle_n (jle_n (jle_n jle_nil)))) ?_
    exact HE0 _ rfl
theorem kSd_sendTo_l7_w {X : jX} {d : Nat} {R : jR} {Q : Option Value → jS → Prop} {o : Nat} {v1 : Int32} {v2 : Int32} (hT : jTy R) (ho : jcl 176 o = 6) (hd : 1 ≤ (d + 1)) {s : Int32 × jH} {x : jH} (K : jlim (fSd_sendTo_l7 R o v1 v2) s = some x) (HE : jEx X (d + 1) jc_158 42 [some (.ref o), none, none, none] [] (176, R, x) Q) :
    jEx X (d + 1) jc_158 7 [some (.ref o), some (.int v1), some (.int v2), some (.int s.1)] [] (176, R, s.2) Q := by
  refine jlim_ok (G := fun s : Int32 × jH => jEx X (d + 1) jc_158 7 [some (.ref o), some (.int v1), some (.int v2), some (.int s.1)] [] (176, R, s.2) Q) (GX := fun x : jH => jEx X (d + 1) jc_158 42 [some (.ref o), none, none, none] [] (176, R, x) Q) (fun s z hz HL HE => ?_) K HE
  exact kSd_sendTo_l7_b hT ho hd hz HL HE
/-- AndGuest$Standing.sendTo(I)V -/
noncomputable def fSd_sendTo (R : jR) (o : Nat) (v1 : Int32) (h : jH) : Option jH :=
  (Option.bind (jlim (fSd_sendTo_l7 R o v1 (fSd_behindNow R o h)) (0, h)) (fun (x5 : jH) =>
  (if (x5.1 o 1) = (-1) then
  some (jhI x5 o 1 (x5.1 o 0))
  else
  some x5)))
theorem kSd_sendTo {X : jX} {d : Nat} {R : jR} {Q : Option Value → jS → Prop} {o : Nat} {v1 : Int32} {h : jH} (hT : jTy R) (ho : jcl 176 o = 6) (hd : 1 ≤ d) {z : jH} (K : fSd_sendTo R o v1 h = some z) (HQ : Q none (176, R, z)) :
    jCa X d 158 [.ref o, .int v1] (176, R, h) Q := by
  obtain ⟨d, rfl⟩ : ∃ d9, d = d9 + 1 := ⟨d - 1, by omega⟩
  unfold fSd_sendTo at K
  refine jCa_of (es := jc_158) (pl := [some (.ref o), some (.int v1), none, none]) (M := jm_158) rfl rfl rfl rfl ?_
  refine jx_next (pc := 0) (pc' := 1) rfl rfl ?_
  refine jx_callv (pc := 1) (o := o) (rest := []) rfl ⟨by decide, by decide⟩ rfl ho (Nat.le_of_ble_eq_true rfl) ?_
  refine kSd_behindNow hT ho (by omega) rfl ?_
  refine jx_stin (pc := 4) (p2 := [some (.ref o), some (.int v1), some (.int (fSd_behindNow R o h)), none]) rfl (jlt rfl) rfl ?_
  refine jx_next (pc := 5) (pc' := 6) rfl rfl ?_
  refine jx_stin (pc := 6) (p2 := [some (.ref o), some (.int v1), some (.int (fSd_behindNow R o h)), some (.int 0)]) rfl (jlt rfl) rfl ?_
  refine jx_le (pl' := [some (.ref o), some (.int v1), some (.int (fSd_behindNow R o h)), some (.int 0)]) (jle_v (jle_v (jle_v (jle_v jle_nil)))) ?_
  obtain ⟨x5, hz_x5, K⟩ := Option.bind_eq_some_iff.mp K
  refine kSd_sendTo_l7_w hT ho hd hz_x5 ?_
  refine jx_next (pc := 42) (pc' := 43) rfl rfl ?_
  refine jx_geti (pc := 43) rfl ho ?_
  refine jx_next (pc := 46) (pc' := 47) rfl rfl ?_
  refine jx_icne (pc := 47) rfl (fun hc6 => ?_) (fun hc6 => ?_)
  · replace K := (if_pos hc6).symm.trans K
    refine jx_next (pc := 50) (pc' := 51) rfl rfl ?_
    refine jx_next (pc := 51) (pc' := 52) rfl rfl ?_
    refine jx_geti (pc := 52) rfl ho ?_
    refine jx_puti (pc := 55) rfl ho ?_
    obtain rfl := Option.some.inj K
    exact jx_ret (pc := 58) rfl rfl HQ
  · replace K := (if_neg hc6).symm.trans K
    obtain rfl := Option.some.inj K
    exact jx_ret (pc := 58) rfl rfl HQ
/-- AndGuest.canPass(I)Z -/
noncomputable def fA_canPass (R : jR) (o : Nat) (v1 : Int32) (h : jH) : Int32 :=
  (if (h.1 o 12) = 0 then
  (0 : Int32)
  else
  (if v1 < 1 then
  (0 : Int32)
  else
  (if 99 < v1 then
  (0 : Int32)
  else
  (if 999 < ((h.1 (R o 5) 0) + v1) then
  (0 : Int32)
  else
  (1 : Int32)))))
theorem kA_canPass {X : jX} {d : Nat} {R : jR} {Q : Option Value → jS → Prop} {o : Nat} {v1 : Int32} {h : jH} (hT : jTy R) (ho : jcl 176 o = 1) (hd : 0 ≤ d) {z : Int32} (K : fA_canPass R o v1 h = z) (HQ : Q (some (.int z)) (176, R, h)) :
    jCa X d 161 [.ref o, .int v1] (176, R, h) Q := by
  unfold fA_canPass at K
  refine jCa_of (es := jc_161) (pl := [some (.ref o), some (.int v1)]) (M := jm_161) rfl rfl rfl rfl ?_
  refine jx_next (pc := 0) (pc' := 1) rfl rfl ?_
  refine jx_getz (pc := 1) rfl ho ?_
  refine jx_ifeq (pc := 4) rfl (fun hc1 => ?_) (fun hc1 => ?_)
  · replace K := (if_pos hc1).symm.trans K
    refine jx_next (pc := 37) (pc' := 38) rfl rfl ?_
    obtain rfl := K
    exact jx_zret (pc := 38) rfl (Or.inl rfl) HQ
  · replace K := (if_neg hc1).symm.trans K
    refine jx_next (pc := 7) (pc' := 8) rfl rfl ?_
    refine jx_next (pc := 8) (pc' := 9) rfl rfl ?_
    refine jx_iclt (pc := 9) rfl (fun hc2 => ?_) (fun hc2 => ?_)
    · replace K := (if_pos hc2).symm.trans K
      refine jx_next (pc := 37) (pc' := 38) rfl rfl ?_
      obtain rfl := K
      exact jx_zret (pc := 38) rfl (Or.inl rfl) HQ
    · replace K := (if_neg hc2).symm.trans K
      refine jx_next (pc := 12) (pc' := 13) rfl rfl ?_
      refine jx_next (pc := 13) (pc' := 15) rfl rfl ?_
      refine jx_icgt (pc := 15) rfl (fun hc3 => ?_) (fun hc3 => ?_)
      · replace K := (if_pos hc3).symm.trans K
        refine jx_next (pc := 37) (pc' := 38) rfl rfl ?_
        obtain rfl := K
        exact jx_zret (pc := 38) rfl (Or.inl rfl) HQ
      · replace K := (if_neg hc3).symm.trans K
        refine jx_next (pc := 18) (pc' := 19) rfl rfl ?_
        refine jx_getr (pc := 19) rfl ho ?_
        refine jx_geti (pc := 22) rfl (jtR hT ho (k := 5) (c := 6) rfl) ?_
        refine jx_next (pc := 25) (pc' := 26) rfl rfl ?_
        refine jx_next (pc := 26) (pc' := 27) rfl rfl ?_
        refine jx_next (pc := 27) (pc' := 30) rfl rfl ?_
        refine jx_icgt (pc := 30) rfl (fun hc4 => ?_) (fun hc4 => ?_)
        · replace K := (if_pos hc4).symm.trans K
          refine jx_next (pc := 37) (pc' := 38) rfl rfl ?_
          obtain rfl := K
          exact jx_zret (pc := 38) rfl (Or.inl rfl) HQ
        · replace K := (if_neg hc4).symm.trans K
          refine jx_next (pc := 33) (pc' := 34) rfl rfl ?_
          refine jx_next (pc := 34) (pc' := 38) rfl rfl ?_
          obtain rfl := K
          exact jx_zret (pc := 38) rfl (Or.inr rfl) HQ
/-- AndGuest.draw(I)I -/
noncomputable def fA_draw (R : jR) (o : Nat) (v1 : Int32) (h : jH) : Option (Int32 × jH) :=
  (if 0 < v1 then
  (if ¬ v1 = 0 then
  some ((((jhI h o 13 ((((1103515245 * ((h.1 o 13).toInt64)) + 12345) &&& 2147483647).toInt32)).1 o 13) >>> (6 &&& 31)) - (((jhI h o 13 ((((1103515245 * ((h.1 o 13).toInt64)) + 12345) &&& 2147483647).toInt32)).1 o 13) >>> (6 &&& 31)) / v1 * v1, jhI h o 13 ((((1103515245 * ((h.1 o 13).toInt64)) + 12345) &&& 2147483647).toInt32))
  else none)
  else
  some (0, jhI h o 13 ((((1103515245 * ((h.1 o 13).toInt64)) + 12345) &&& 2147483647).toInt32)))
theorem kA_draw {X : jX} {d : Nat} {R : jR} {Q : Option Value → jS → Prop} {o : Nat} {v1 : Int32} {h : jH} (hT : jTy R) (ho : jcl 176 o = 1) (hd : 0 ≤ d) {z : Int32 × jH} (K : fA_draw R o v1 h = some z) (HQ : Q (some (.int z.1)) (176, R, z.2)) :
    jCa X d 164 [.ref o, .int v1] (176, R, h) Q := by
  unfold fA_draw at K
  refine jCa_of (es := jc_164) (pl := [some (.ref o), some (.int v1)]) (M := jm_164) rfl rfl rfl rfl ?_
  refine jx_next (pc := 0) (pc' := 1) rfl rfl ?_
  refine jx_next (pc := 1) (pc' := 4) rfl rfl ?_
  refine jx_next (pc := 4) (pc' := 5) rfl rfl ?_
  refine jx_geti (pc := 5) rfl ho ?_
  refine jx_next (pc := 8) (pc' := 9) rfl rfl ?_
  refine jx_next (pc := 9) (pc' := 10) rfl rfl ?_
  refine jx_next (pc := 10) (pc' := 13) rfl rfl ?_
  refine jx_next (pc := 13) (pc' := 14) rfl rfl ?_
  refine jx_next (pc := 14) (pc' := 17) rfl rfl ?_
  refine jx_next (pc := 17) (pc' := 18) rfl rfl ?_
  refine jx_next (pc := 18) (pc' := 19) rfl rfl ?_
  refine jx_puti (pc := 19) rfl ho ?_
  refine jx_next (pc := 22) (pc' := 23) rfl rfl ?_
  refine jx_ifle (pc := 23) rfl (fun hc1 => ?_) (fun hc1 => ?_)
  · replace K := (if_pos hc1).symm.trans K
    refine jx_next (pc := 26) (pc' := 27) rfl rfl ?_
    refine jx_geti (pc := 27) rfl ho ?_
    refine jx_next (pc := 30) (pc' := 32) rfl rfl ?_
    refine jx_next (pc := 32) (pc' := 33) rfl rfl ?_
    refine jx_next (pc := 33) (pc' := 34) rfl rfl ?_
    obtain ⟨hg, K⟩ := jguard K
    refine jx_irem (pc := 34) rfl hg ?_
    refine jx_next (pc := 35) (pc' := 39) rfl rfl ?_
    obtain rfl := Option.some.inj K
    exact jx_iret (pc := 39) rfl HQ
  · replace K := (if_neg hc1).symm.trans K
    refine jx_next (pc := 38) (pc' := 39) rfl rfl ?_
    obtain rfl := Option.some.inj K
    exact jx_iret (pc := 39) rfl HQ
noncomputable def fA_passWeekBySeed_l12_j84 (R : jR) (o : Nat) (v1 : Nat) (v2 : Int32) (v3 : Int32) (h : jH) : Option ((Int32 × Int32 × jH) ⊕ (Int32 × jH)) :=
  some (.inl (v2, v3 + 1, h))
theorem kA_passWeekBySeed_l12_j84 {X : jX} {d : Nat} {R : jR} {Q : Option Value → jS → Prop} {o : Nat} {v1 : Nat} {v2 : Int32} {v3 : Int32} {h : jH} (hT : jTy R) (ho : jcl 176 o = 1) (hv1 : jcl 176 v1 = 10) (hd : 1 ≤ (d + 1)) {z : (Int32 × Int32 × jH) ⊕ (Int32 × jH)} (K : fA_passWeekBySeed_l12_j84 R o v1 v2 v3 h = some z) (HL : ∀ s : Int32 × Int32 × jH, z = .inl s → jEx X (d + 1) jc_163 12 [some (.ref o), some (.ref v1), some (.int s.1), some (.int s.2.1)] [] (176, R, s.2.2) Q) (HE0 : ∀ x : Int32 × jH, z = .inr x → jEx X (d + 1) jc_163 90 [some (.ref o), none, some (.int x.1), none] [] (176, R, x.2) Q) :
    jEx X (d + 1) jc_163 84 [some (.ref o), some (.ref v1), some (.int v2), some (.int v3)] [] (176, R, h) Q := by
  unfold fA_passWeekBySeed_l12_j84 at K
  refine jx_inc (pc := 84) (x := v3) (p2 := [some (.ref o), some (.ref v1), some (.int v2), some (.int (v3 + 1))]) rfl rfl (jlt rfl) rfl ?_
  refine jx_next (pc := 87) (pc' := 12) rfl rfl ?_
  obtain rfl := Option.some.inj K
  refine jx_le (pl' := [some (.ref o), some (.ref v1), some (.int v2), some (.int (v3 + 1))]) (jle_v (jle_v (jle_v (jle_v jle_nil)))) ?_
  exact HL _ rfl
noncomputable def fA_passWeekBySeed_l12_j80 (R : jR) (o : Nat) (v1 : Nat) (v2 : Int32) (v3 : Int32) (s0 : Nat) (s1 : Int32) (s2 : Int32) (h : jH) : Option ((Int32 × Int32 × jH) ⊕ (Int32 × jH)) :=
  (if jin s1 (jsh s0).2 then
  fA_passWeekBySeed_l12_j84 R o v1 (v2 + 1) v3 (jhI h s0 s1.toNatClampNeg s2)
  else none)
theorem kA_passWeekBySeed_l12_j80 {X : jX} {d : Nat} {R : jR} {Q : Option Value → jS → Prop} {o : Nat} {v1 : Nat} {v2 : Int32} {v3 : Int32} {s0 : Nat} {s1 : Int32} {s2 : Int32} {h : jH} (hT : jTy R) (ho : jcl 176 o = 1) (hv1 : jcl 176 v1 = 10) (hs0 : jcl 176 s0 = 20) (hd : 1 ≤ (d + 1)) {z : (Int32 × Int32 × jH) ⊕ (Int32 × jH)} (K : fA_passWeekBySeed_l12_j80 R o v1 v2 v3 s0 s1 s2 h = some z) (HL : ∀ s : Int32 × Int32 × jH, z = .inl s → jEx X (d + 1) jc_163 12 [some (.ref o), some (.ref v1), some (.int s.1), some (.int s.2.1)] [] (176, R, s.2.2) Q) (HE0 : ∀ x : Int32 × jH, z = .inr x → jEx X (d + 1) jc_163 90 [some (.ref o), none, some (.int x.1), none] [] (176, R, x.2) Q) :
    jEx X (d + 1) jc_163 80 [some (.ref o), some (.ref v1), some (.int v2), some (.int v3)] [.int s2, .int s1, .ref s0] (176, R, h) Q := by
  unfold fA_passWeekBySeed_l12_j80 at K
  obtain ⟨hg10, K⟩ := jguard K
  refine jx_iast (pc := 80) rfl hs0 hg10 ?_
  refine jx_inc (pc := 81) (x := v2) (p2 := [some (.ref o), some (.ref v1), some (.int (v2 + 1)), some (.int v3)]) rfl rfl (jlt rfl) rfl ?_
  refine jx_le (pl' := [some (.ref o), some (.ref v1), some (.int (v2 + 1)), some (.int v3)]) (jle_v (jle_v (jle_v (jle_v jle_nil)))) ?_
  exact kA_passWeekBySeed_l12_j84 hT ho hv1 hd K HL HE0
noncomputable def fA_passWeekBySeed_l12_b (R : jR) (o : Nat) (v1 : Nat) (v2 : Int32) (v3 : Int32) (h : jH) : Option ((Int32 × Int32 × jH) ⊕ (Int32 × jH)) :=
  (if v3 < (h.1 v1 0) then
  (if v3 < 8 then
  (if jin v3 (jsh (R (R o 5) 2)).2 then
  (if (h.1 (R (R o 5) 2) v3.toNatClampNeg) = 1 then
  (Option.bind (fA_draw R o 100 h) (fun (z5 : Int32 × jH) =>
  (if z5.1 < (z5.2.1 v1 8) then
  (Option.bind (fA_draw R o 10 z5.2) (fun (z7 : Int32 × jH) =>
  (if jin v3 (jsh (R v1 11)).2 then
  (if z7.1 < (z7.2.1 (R v1 11) v3.toNatClampNeg) then
  fA_passWeekBySeed_l12_j80 R o v1 v2 v3 (R (R o 5) 2) v3 2 z7.2
  else
  fA_passWeekBySeed_l12_j80 R o v1 v2 v3 (R (R o 5) 2) v3 3 z7.2)
  else none)))
  else
  fA_passWeekBySeed_l12_j84 R o v1 v2 v3 z5.2)))
  else
  fA_passWeekBySeed_l12_j84 R o v1 v2 v3 h)
  else none)
  else
  some (.inr (v2, h)))
  else
  some (.inr (v2, h)))
noncomputable def fA_passWeekBySeed_l12 (R : jR) (o : Nat) (v1 : Nat) : (Int32 × Int32 × jH) → Option ((Int32 × Int32 × jH) ⊕ (Int32 × jH)) :=
  fun (s : Int32 × Int32 × jH) => fA_passWeekBySeed_l12_b R o v1 s.1 s.2.1 s.2.2
theorem kA_passWeekBySeed_l12_b {X : jX} {d : Nat} {R : jR} {Q : Option Value → jS → Prop} {o : Nat} {v1 : Nat} {v2 : Int32} {v3 : Int32} {h : jH} (hT : jTy R) (ho : jcl 176 o = 1) (hv1 : jcl 176 v1 = 10) (hd : 1 ≤ (d + 1)) {z : (Int32 × Int32 × jH) ⊕ (Int32 × jH)} (K : fA_passWeekBySeed_l12_b R o v1 v2 v3 h = some z) (HL : ∀ s : Int32 × Int32 × jH, z = .inl s → jEx X (d + 1) jc_163 12 [some (.ref o), some (.ref v1), some (.int s.1), some (.int s.2.1)] [] (176, R, s.2.2) Q) (HE0 : ∀ x : Int32 × jH, z = .inr x → jEx X (d + 1) jc_163 90 [some (.ref o), none, some (.int x.1), none] [] (176, R, x.2) Q) :
    jEx X (d + 1) jc_163 12 [some (.ref o), some (.ref v1), some (.int v2), some (.int v3)] [] (176, R, h) Q := by
  unfold fA_passWeekBySeed_l12_b at K
  refine jx_next (pc := 12) (pc' := 13) rfl rfl ?_
  refine jx_next (pc := 13) (pc' := 14) rfl rfl ?_
  refine jx_geti (pc := 14) rfl hv1 ?_
  refine jx_icge (pc := 17) rfl (fun hc1 => ?_) (fun hc1 => ?_)
  · replace K := (if_pos hc1).symm.trans K
    refine jx_next (pc := 20) (pc' := 21) rfl rfl ?_
    refine jx_next (pc := 21) (pc' := 23) rfl rfl ?_
    refine jx_icge (pc := 23) rfl (fun hc2 => ?_) (fun hc2 => ?_)
    · replace K := (if_pos hc2).symm.trans K
      refine jx_next (pc := 26) (pc' := 27) rfl rfl ?_
      refine jx_getr (pc := 27) rfl ho ?_
      refine jx_getr (pc := 30) rfl (jtR hT ho (k := 5) (c := 6) rfl) ?_
      refine jx_next (pc := 33) (pc' := 34) rfl rfl ?_
      obtain ⟨hg3, K⟩ := jguard K
      refine jx_iald (pc := 34) rfl (jtR hT (jtR hT ho (k := 5) (c := 6) rfl) (k := 2) (c := 20) rfl) hg3 ?_
      refine jx_next (pc := 35) (pc' := 36) rfl rfl ?_
      refine jx_icne (pc := 36) rfl (fun hc4 => ?_) (fun hc4 => ?_)
      · replace K := (if_pos hc4).symm.trans K
        refine jx_next (pc := 39) (pc' := 40) rfl rfl ?_
        refine jx_next (pc := 40) (pc' := 42) rfl rfl ?_
        refine jx_callv (pc := 42) (o := o) (rest := []) rfl ⟨by decide, by decide⟩ rfl ho (Nat.le_of_ble_eq_true rfl) ?_
        obtain ⟨z5, hz_z5, K⟩ := Option.bind_eq_some_iff.mp K
        refine kA_draw hT ho (by omega) hz_z5 ?_
        refine jx_next (pc := 45) (pc' := 46) rfl rfl ?_
        refine jx_geti (pc := 46) rfl hv1 ?_
        refine jx_icge (pc := 49) rfl (fun hc6 => ?_) (fun hc6 => ?_)
        · replace K := (if_pos hc6).symm.trans K
          refine jx_next (pc := 52) (pc' := 53) rfl rfl ?_
          refine jx_getr (pc := 53) rfl ho ?_
          refine jx_getr (pc := 56) rfl (jtR hT ho (k := 5) (c := 6) rfl) ?_
          refine jx_next (pc := 59) (pc' := 60) rfl rfl ?_
          refine jx_next (pc := 60) (pc' := 61) rfl rfl ?_
          refine jx_next (pc := 61) (pc' := 63) rfl rfl ?_
          refine jx_callv (pc := 63) (o := o) (rest := [.int v3, .ref (R (R o 5) 2)]) rfl ⟨by decide, by decide⟩ rfl ho (Nat.le_of_ble_eq_true rfl) ?_
          obtain ⟨z7, hz_z7, K⟩ := Option.bind_eq_some_iff.mp K
          refine kA_draw hT ho (by omega) hz_z7 ?_
          refine jx_next (pc := 66) (pc' := 67) rfl rfl ?_
          refine jx_getr (pc := 67) rfl hv1 ?_
          refine jx_next (pc := 70) (pc' := 71) rfl rfl ?_
          obtain ⟨hg8, K⟩ := jguard K
          refine jx_iald (pc := 71) rfl (jtR hT hv1 (k := 11) (c := 20) rfl) hg8 ?_
          refine jx_icge (pc := 72) rfl (fun hc9 => ?_) (fun hc9 => ?_)
          · replace K := (if_pos hc9).symm.trans K
            refine jx_next (pc := 75) (pc' := 76) rfl rfl ?_
            refine jx_next (pc := 76) (pc' := 80) rfl rfl ?_
            refine jx_le (pl' := [some (.ref o), some (.ref v1), some (.int v2), some (.int v3)]) (jle_v (jle_v (jle_v (jle_v jle_nil)))) ?_
            exact kA_passWeekBySeed_l12_j80 hT ho hv1 (jtR hT (jtR hT ho (k := 5) (c := 6) rfl) (k := 2) (c := 20) rfl) hd K HL HE0
          · replace K := (if_neg hc9).symm.trans K
            refine jx_next (pc := 79) (pc' := 80) rfl rfl ?_
            refine jx_le (pl' := [some (.ref o), some (.ref v1), some (.int v2), some (.int v3)]) (jle_v (jle_v (jle_v (jle_v jle_nil)))) ?_
            exact kA_passWeekBySeed_l12_j80 hT ho hv1 (jtR hT (jtR hT ho (k := 5) (c := 6) rfl) (k := 2) (c := 20) rfl) hd K HL HE0
        · replace K := (if_neg hc6).symm.trans K
          refine jx_le (pl' := [some (.ref o), some (.ref v1), some (.int v2), some (.int v3)]) (jle_v (jle_v (jle_v (jle_v jle_nil)))) ?_
          exact kA_passWeekBySeed_l12_j84 hT ho hv1 hd K HL HE0
      · replace K := (if_neg hc4).symm.trans K
        refine jx_le (pl' := [some (.ref o), some (.ref v1), some (.int v2), some (.int v3)]) (jle_v (jle_v (jle_v (jle_v jle_nil)))) ?_
        exact kA_passWeekBySeed_l12_j84 hT ho hv1 hd K HL HE0
    · replace K := (if_neg hc2).symm.trans K
      obtain rfl := Option.some.inj K
      refine jx_le (pl' := [some (.ref o), none, some (.int v2), none]) (jle_v (jle_n (jle_v (jle_n jle_nil)))) ?_
      exact HE0 _ rfl
  · replace K := (if_neg hc1).symm.trans K
    obtain rfl := Option.some.inj K
    refine jx_le (pl' := [some (.ref o), none, some (.int v2), none]) (jle_v (jle_n (jle_v (jle_n jle_nil)))) ?_
    exact HE0 _ rfl
theorem kA_passWeekBySeed_l12_w {X : jX} {d : Nat} {R : jR} {Q : Option Value → jS → Prop} {o : Nat} {v1 : Nat} (hT : jTy R) (ho : jcl 176 o = 1) (hv1 : jcl 176 v1 = 10) (hd : 1 ≤ (d + 1)) {s : Int32 × Int32 × jH} {x : Int32 × jH} (K : jlim (fA_passWeekBySeed_l12 R o v1) s = some x) (HE : jEx X (d + 1) jc_163 90 [some (.ref o), none, some (.int x.1), none] [] (176, R, x.2) Q) :
    jEx X (d + 1) jc_163 12 [some (.ref o), some (.ref v1), some (.int s.1), some (.int s.2.1)] [] (176, R, s.2.2) Q := by
  refine jlim_ok (G := fun s : Int32 × Int32 × jH => jEx X (d + 1) jc_163 12 [some (.ref o), some (.ref v1), some (.int s.1), some (.int s.2.1)] [] (176, R, s.2.2) Q) (GX := fun x : Int32 × jH => jEx X (d + 1) jc_163 90 [some (.ref o), none, some (.int x.1), none] [] (176, R, x.2) Q) (fun s z hz HL HE => ?_) K HE
  exact kA_passWeekBySeed_l12_b hT ho hv1 hd hz HL HE
/-- AndGuest.passWeekBySeed()I -/
noncomputable def fA_passWeekBySeed (R : jR) (o : Nat) (h : jH) : Option (Int32 × jH) :=
  (Option.bind (jlim (fA_passWeekBySeed_l12 R o (fPy_plan R (R o 8) h)) (0, 0, h)) (fun (x11 : Int32 × jH) =>
  some (x11.1, jhI x11.2 (R o 5) 0 ((x11.2.1 (R o 5) 0) + 1))))
theorem kA_passWeekBySeed {X : jX} {d : Nat} {R : jR} {Q : Option Value → jS → Prop} {o : Nat} {h : jH} (hT : jTy R) (ho : jcl 176 o = 1) (hd : 1 ≤ d) {z : Int32 × jH} (K : fA_passWeekBySeed R o h = some z) (HQ : Q (some (.int z.1)) (176, R, z.2)) :
    jCa X d 163 [.ref o] (176, R, h) Q := by
  obtain ⟨d, rfl⟩ : ∃ d9, d = d9 + 1 := ⟨d - 1, by omega⟩
  unfold fA_passWeekBySeed at K
  refine jCa_of (es := jc_163) (pl := [some (.ref o), none, none, none]) (M := jm_163) rfl rfl rfl rfl ?_
  refine jx_next (pc := 0) (pc' := 1) rfl rfl ?_
  refine jx_getr (pc := 1) rfl ho ?_
  refine jx_callv (pc := 4) (o := (R o 8)) (rest := []) rfl ⟨by decide, by decide⟩ rfl (jtR hT ho (k := 8) (c := 8) rfl) (Nat.le_of_ble_eq_true rfl) ?_
  refine kPy_plan hT (jtR hT ho (k := 8) (c := 8) rfl) (by omega) rfl ?_
  refine jx_stan (pc := 7) (p2 := [some (.ref o), some (.ref (fPy_plan R (R o 8) h)), none, none]) rfl (jlt rfl) rfl ?_
  refine jx_next (pc := 8) (pc' := 9) rfl rfl ?_
  refine jx_stin (pc := 9) (p2 := [some (.ref o), some (.ref (fPy_plan R (R o 8) h)), some (.int 0), none]) rfl (jlt rfl) rfl ?_
  refine jx_next (pc := 10) (pc' := 11) rfl rfl ?_
  refine jx_stin (pc := 11) (p2 := [some (.ref o), some (.ref (fPy_plan R (R o 8) h)), some (.int 0), some (.int 0)]) rfl (jlt rfl) rfl ?_
  refine jx_le (pl' := [some (.ref o), some (.ref (fPy_plan R (R o 8) h)), some (.int 0), some (.int 0)]) (jle_v (jle_v (jle_v (jle_v jle_nil)))) ?_
  obtain ⟨x11, hz_x11, K⟩ := Option.bind_eq_some_iff.mp K
  refine kA_passWeekBySeed_l12_w hT ho (kPy_plan_c hT (jtR hT ho (k := 8) (c := 8) rfl)) hd hz_x11 ?_
  refine jx_next (pc := 90) (pc' := 91) rfl rfl ?_
  refine jx_getr (pc := 91) rfl ho ?_
  refine jx_next (pc := 94) (pc' := 95) rfl rfl ?_
  refine jx_geti (pc := 95) rfl (jtR hT ho (k := 5) (c := 6) rfl) ?_
  refine jx_next (pc := 98) (pc' := 99) rfl rfl ?_
  refine jx_next (pc := 99) (pc' := 100) rfl rfl ?_
  refine jx_puti (pc := 100) rfl (jtR hT ho (k := 5) (c := 6) rfl) ?_
  refine jx_next (pc := 103) (pc' := 104) rfl rfl ?_
  obtain rfl := Option.some.inj K
  exact jx_iret (pc := 104) rfl HQ
/-- AndGuest$Past.giveBack(LAndGuest$Standing;)Z -/
noncomputable def fPa_giveBack (R : jR) (o : Nat) (v1 : Nat) (h : jH) : Option (Int32 × jH) :=
  (if 0 < (h.1 o 1) then
  (if 20 < (h.1 o 1) then
  some (0, h)
  else
  (if jin ((jhI h o 1 ((h.1 o 1) - 1)).1 o 1) (jsh (R o 0)).2 then
  (Option.bind (fSd_copyFrom R v1 (R (R o 0) ((jhI h o 1 ((h.1 o 1) - 1)).1 o 1).toNatClampNeg) (jhI h o 1 ((h.1 o 1) - 1))) (fun (z4 : jH) =>
  some (1, z4)))
  else none))
  else
  some (0, h))
theorem kPa_giveBack {X : jX} {d : Nat} {R : jR} {Q : Option Value → jS → Prop} {o : Nat} {v1 : Nat} {h : jH} (hT : jTy R) (ho : jcl 176 o = 7) (hv1 : jcl 176 v1 = 6) (hd : 1 ≤ d) {z : Int32 × jH} (K : fPa_giveBack R o v1 h = some z) (HQ : Q (some (.int z.1)) (176, R, z.2)) :
    jCa X d 166 [.ref o, .ref v1] (176, R, h) Q := by
  obtain ⟨d, rfl⟩ : ∃ d9, d = d9 + 1 := ⟨d - 1, by omega⟩
  unfold fPa_giveBack at K
  refine jCa_of (es := jc_166) (pl := [some (.ref o), some (.ref v1)]) (M := jm_166) rfl rfl rfl rfl ?_
  refine jx_next (pc := 0) (pc' := 1) rfl rfl ?_
  refine jx_geti (pc := 1) rfl ho ?_
  refine jx_ifle (pc := 4) rfl (fun hc1 => ?_) (fun hc1 => ?_)
  · replace K := (if_pos hc1).symm.trans K
    refine jx_next (pc := 7) (pc' := 8) rfl rfl ?_
    refine jx_geti (pc := 8) rfl ho ?_
    refine jx_next (pc := 11) (pc' := 13) rfl rfl ?_
    refine jx_icle (pc := 13) rfl (fun hc2 => ?_) (fun hc2 => ?_)
    · replace K := (if_pos hc2).symm.trans K
      refine jx_next (pc := 16) (pc' := 17) rfl rfl ?_
      obtain rfl := Option.some.inj K
      exact jx_zret (pc := 17) rfl (Or.inl rfl) HQ
    · replace K := (if_neg hc2).symm.trans K
      refine jx_next (pc := 18) (pc' := 19) rfl rfl ?_
      refine jx_next (pc := 19) (pc' := 20) rfl rfl ?_
      refine jx_geti (pc := 20) rfl ho ?_
      refine jx_next (pc := 23) (pc' := 24) rfl rfl ?_
      refine jx_next (pc := 24) (pc' := 25) rfl rfl ?_
      refine jx_puti (pc := 25) rfl ho ?_
      refine jx_next (pc := 28) (pc' := 29) rfl rfl ?_
      refine jx_next (pc := 29) (pc' := 30) rfl rfl ?_
      refine jx_getr (pc := 30) rfl ho ?_
      refine jx_next (pc := 33) (pc' := 34) rfl rfl ?_
      refine jx_geti (pc := 34) rfl ho ?_
      obtain ⟨hg3, K⟩ := jguard K
      refine jx_aald (pc := 37) rfl (jtR hT ho (k := 0) (c := 23) rfl) hg3 ?_
      refine jx_callv (pc := 38) (o := v1) (rest := []) rfl ⟨by decide, by decide⟩ rfl hv1 (Nat.le_of_ble_eq_true rfl) ?_
      obtain ⟨z4, hz_z4, K⟩ := Option.bind_eq_some_iff.mp K
      refine kSd_copyFrom hT hv1 (jtR hT (jtR hT ho (k := 0) (c := 23) rfl) (k := _) (c := 6) rfl) (by omega) hz_z4 ?_
      refine jx_next (pc := 41) (pc' := 42) rfl rfl ?_
      obtain rfl := Option.some.inj K
      exact jx_zret (pc := 42) rfl (Or.inr rfl) HQ
  · replace K := (if_neg hc1).symm.trans K
    refine jx_next (pc := 16) (pc' := 17) rfl rfl ?_
    obtain rfl := Option.some.inj K
    exact jx_zret (pc := 17) rfl (Or.inl rfl) HQ
/-- AndGuest.undo()Z -/
noncomputable def fA_undo (R : jR) (o : Nat) (h : jH) : Option (Int32 × jH) :=
  (Option.bind (fPa_giveBack R (R o 7) (R o 5) h) (fun (z1 : Int32 × jH) =>
  (if z1.1 = 0 then
  (Option.bind (fA_refuse R o 4 z1.2) (fun (z3 : jH) =>
  some (0, z3)))
  else
  some (1, z1.2))))
theorem kA_undo {X : jX} {d : Nat} {R : jR} {Q : Option Value → jS → Prop} {o : Nat} {h : jH} (hT : jTy R) (ho : jcl 176 o = 1) (hd : 2 ≤ d) {z : Int32 × jH} (K : fA_undo R o h = some z) (HQ : Q (some (.int z.1)) (176, R, z.2)) :
    jCa X d 165 [.ref o] (176, R, h) Q := by
  obtain ⟨d, rfl⟩ : ∃ d9, d = d9 + 1 := ⟨d - 1, by omega⟩
  unfold fA_undo at K
  refine jCa_of (es := jc_165) (pl := [some (.ref o)]) (M := jm_165) rfl rfl rfl rfl ?_
  refine jx_next (pc := 0) (pc' := 1) rfl rfl ?_
  refine jx_getr (pc := 1) rfl ho ?_
  refine jx_next (pc := 4) (pc' := 5) rfl rfl ?_
  refine jx_getr (pc := 5) rfl ho ?_
  refine jx_callv (pc := 8) (o := (R o 7)) (rest := []) rfl ⟨by decide, by decide⟩ rfl (jtR hT ho (k := 7) (c := 7) rfl) (Nat.le_of_ble_eq_true rfl) ?_
  obtain ⟨z1, hz_z1, K⟩ := Option.bind_eq_some_iff.mp K
  refine kPa_giveBack hT (jtR hT ho (k := 7) (c := 7) rfl) (jtR hT ho (k := 5) (c := 6) rfl) (by omega) hz_z1 ?_
  refine jx_ifne (pc := 11) rfl (fun hc2 => ?_) (fun hc2 => ?_)
  · replace K := (if_pos hc2).symm.trans K
    refine jx_next (pc := 14) (pc' := 15) rfl rfl ?_
    refine jx_next (pc := 15) (pc' := 16) rfl rfl ?_
    refine jx_callv (pc := 16) (o := o) (rest := []) rfl ⟨by decide, by decide⟩ rfl ho (Nat.le_of_ble_eq_true rfl) ?_
    obtain ⟨z3, hz_z3, K⟩ := Option.bind_eq_some_iff.mp K
    refine kA_refuse hT ho (by omega) hz_z3 ?_
    refine jx_next (pc := 19) (pc' := 20) rfl rfl ?_
    obtain rfl := Option.some.inj K
    exact jx_zret (pc := 20) rfl (Or.inl rfl) HQ
  · replace K := (if_neg hc2).symm.trans K
    refine jx_next (pc := 21) (pc' := 22) rfl rfl ?_
    obtain rfl := Option.some.inj K
    exact jx_zret (pc := 22) rfl (Or.inr rfl) HQ
/-- AndGuest.seed(I)Z -/
noncomputable def fA_seed (R : jR) (o : Nat) (v1 : Int32) (h : jH) : Option (Int32 × jH) :=
  (if v1 < 0 then
  (Option.bind (fA_refuse R o 5 h) (fun (z2 : jH) =>
  some (0, z2)))
  else
  some (1, jhI h o 13 v1))
theorem kA_seed {X : jX} {d : Nat} {R : jR} {Q : Option Value → jS → Prop} {o : Nat} {v1 : Int32} {h : jH} (hT : jTy R) (ho : jcl 176 o = 1) (hd : 1 ≤ d) {z : Int32 × jH} (K : fA_seed R o v1 h = some z) (HQ : Q (some (.int z.1)) (176, R, z.2)) :
    jCa X d 167 [.ref o, .int v1] (176, R, h) Q := by
  obtain ⟨d, rfl⟩ : ∃ d9, d = d9 + 1 := ⟨d - 1, by omega⟩
  unfold fA_seed at K
  refine jCa_of (es := jc_167) (pl := [some (.ref o), some (.int v1)]) (M := jm_167) rfl rfl rfl rfl ?_
  refine jx_next (pc := 0) (pc' := 1) rfl rfl ?_
  refine jx_ifge (pc := 1) rfl (fun hc1 => ?_) (fun hc1 => ?_)
  · replace K := (if_pos hc1).symm.trans K
    refine jx_next (pc := 4) (pc' := 5) rfl rfl ?_
    refine jx_next (pc := 5) (pc' := 6) rfl rfl ?_
    refine jx_callv (pc := 6) (o := o) (rest := []) rfl ⟨by decide, by decide⟩ rfl ho (Nat.le_of_ble_eq_true rfl) ?_
    obtain ⟨z2, hz_z2, K⟩ := Option.bind_eq_some_iff.mp K
    refine kA_refuse hT ho (by omega) hz_z2 ?_
    refine jx_next (pc := 9) (pc' := 10) rfl rfl ?_
    obtain rfl := Option.some.inj K
    exact jx_zret (pc := 10) rfl (Or.inl rfl) HQ
  · replace K := (if_neg hc1).symm.trans K
    refine jx_next (pc := 11) (pc' := 12) rfl rfl ?_
    refine jx_next (pc := 12) (pc' := 13) rfl rfl ?_
    refine jx_puti (pc := 13) rfl ho ?_
    refine jx_next (pc := 16) (pc' := 17) rfl rfl ?_
    obtain rfl := Option.some.inj K
    exact jx_zret (pc := 17) rfl (Or.inr rfl) HQ
/-- AndGuest$Formula.readKind(LAndGuest$Reader;)I -/
noncomputable def fFo_readKind (R : jR) (v0 : Nat) (h : jH) : Option (Int32 × jH) :=
  (Option.bind (fRd_takesWord R v0 1025 h) (fun (z1 : Int32 × jH) =>
  (if z1.1 = 0 then
  (Option.bind (fRd_takesWord R v0 1026 z1.2) (fun (z3 : Int32 × jH) =>
  (if z3.1 = 0 then
  (Option.bind (fRd_takesWord R v0 1027 z3.2) (fun (z5 : Int32 × jH) =>
  (if z5.1 = 0 then
  (Option.bind (fRd_takesWord R v0 1028 z5.2) (fun (z7 : Int32 × jH) =>
  (if z7.1 = 0 then
  (Option.bind (fRd_takesWord R v0 1029 z7.2) (fun (z9 : Int32 × jH) =>
  (if z9.1 = 0 then
  (Option.bind (fRd_wantsWord R v0 1030 z9.2) (fun (z11 : jH) =>
  some (5, z11)))
  else
  some (4, z9.2))))
  else
  some (3, z7.2))))
  else
  some (2, z5.2))))
  else
  some (1, z3.2))))
  else
  some (0, z1.2))))
theorem kFo_readKind {X : jX} {d : Nat} {R : jR} {Q : Option Value → jS → Prop} {v0 : Nat} {h : jH} (hT : jTy R) (hv0 : jcl 176 v0 = 3) (hd : 5 ≤ d) {z : Int32 × jH} (K : fFo_readKind R v0 h = some z) (HQ : Q (some (.int z.1)) (176, R, z.2)) :
    jCa X d 170 [.ref v0] (176, R, h) Q := by
  obtain ⟨d, rfl⟩ : ∃ d9, d = d9 + 1 := ⟨d - 1, by omega⟩
  unfold fFo_readKind at K
  refine jCa_of (es := jc_170) (pl := [some (.ref v0)]) (M := jm_170) rfl rfl rfl rfl ?_
  refine jx_next (pc := 0) (pc' := 1) rfl rfl ?_
  refine jx_next (pc := 1) (pc' := 4) rfl rfl ?_
  refine jx_callv (pc := 4) (o := v0) (rest := []) rfl ⟨by decide, by decide⟩ rfl hv0 (Nat.le_of_ble_eq_true rfl) ?_
  obtain ⟨z1, hz_z1, K⟩ := Option.bind_eq_some_iff.mp K
  refine kRd_takesWord hT hv0 (by decide) (by omega) hz_z1 ?_
  refine jx_ifeq (pc := 7) rfl (fun hc2 => ?_) (fun hc2 => ?_)
  · replace K := (if_pos hc2).symm.trans K
    refine jx_next (pc := 12) (pc' := 13) rfl rfl ?_
    refine jx_next (pc := 13) (pc' := 16) rfl rfl ?_
    refine jx_callv (pc := 16) (o := v0) (rest := []) rfl ⟨by decide, by decide⟩ rfl hv0 (Nat.le_of_ble_eq_true rfl) ?_
    obtain ⟨z3, hz_z3, K⟩ := Option.bind_eq_some_iff.mp K
    refine kRd_takesWord hT hv0 (by decide) (by omega) hz_z3 ?_
    refine jx_ifeq (pc := 19) rfl (fun hc4 => ?_) (fun hc4 => ?_)
    · replace K := (if_pos hc4).symm.trans K
      refine jx_next (pc := 24) (pc' := 25) rfl rfl ?_
      refine jx_next (pc := 25) (pc' := 28) rfl rfl ?_
      refine jx_callv (pc := 28) (o := v0) (rest := []) rfl ⟨by decide, by decide⟩ rfl hv0 (Nat.le_of_ble_eq_true rfl) ?_
      obtain ⟨z5, hz_z5, K⟩ := Option.bind_eq_some_iff.mp K
      refine kRd_takesWord hT hv0 (by decide) (by omega) hz_z5 ?_
      refine jx_ifeq (pc := 31) rfl (fun hc6 => ?_) (fun hc6 => ?_)
      · replace K := (if_pos hc6).symm.trans K
        refine jx_next (pc := 36) (pc' := 37) rfl rfl ?_
        refine jx_next (pc := 37) (pc' := 40) rfl rfl ?_
        refine jx_callv (pc := 40) (o := v0) (rest := []) rfl ⟨by decide, by decide⟩ rfl hv0 (Nat.le_of_ble_eq_true rfl) ?_
        obtain ⟨z7, hz_z7, K⟩ := Option.bind_eq_some_iff.mp K
        refine kRd_takesWord hT hv0 (by decide) (by omega) hz_z7 ?_
        refine jx_ifeq (pc := 43) rfl (fun hc8 => ?_) (fun hc8 => ?_)
        · replace K := (if_pos hc8).symm.trans K
          refine jx_next (pc := 48) (pc' := 49) rfl rfl ?_
          refine jx_next (pc := 49) (pc' := 52) rfl rfl ?_
          refine jx_callv (pc := 52) (o := v0) (rest := []) rfl ⟨by decide, by decide⟩ rfl hv0 (Nat.le_of_ble_eq_true rfl) ?_
          obtain ⟨z9, hz_z9, K⟩ := Option.bind_eq_some_iff.mp K
          refine kRd_takesWord hT hv0 (by decide) (by omega) hz_z9 ?_
          refine jx_ifeq (pc := 55) rfl (fun hc10 => ?_) (fun hc10 => ?_)
          · replace K := (if_pos hc10).symm.trans K
            refine jx_next (pc := 60) (pc' := 61) rfl rfl ?_
            refine jx_next (pc := 61) (pc' := 64) rfl rfl ?_
            refine jx_callv (pc := 64) (o := v0) (rest := []) rfl ⟨by decide, by decide⟩ rfl hv0 (Nat.le_of_ble_eq_true rfl) ?_
            obtain ⟨z11, hz_z11, K⟩ := Option.bind_eq_some_iff.mp K
            refine kRd_wantsWord hT hv0 (by decide) (by omega) hz_z11 ?_
            refine jx_next (pc := 67) (pc' := 68) rfl rfl ?_
            obtain rfl := Option.some.inj K
            exact jx_iret (pc := 68) rfl HQ
          · replace K := (if_neg hc10).symm.trans K
            refine jx_next (pc := 58) (pc' := 59) rfl rfl ?_
            obtain rfl := Option.some.inj K
            exact jx_iret (pc := 59) rfl HQ
        · replace K := (if_neg hc8).symm.trans K
          refine jx_next (pc := 46) (pc' := 47) rfl rfl ?_
          obtain rfl := Option.some.inj K
          exact jx_iret (pc := 47) rfl HQ
      · replace K := (if_neg hc6).symm.trans K
        refine jx_next (pc := 34) (pc' := 35) rfl rfl ?_
        obtain rfl := Option.some.inj K
        exact jx_iret (pc := 35) rfl HQ
    · replace K := (if_neg hc4).symm.trans K
      refine jx_next (pc := 22) (pc' := 23) rfl rfl ?_
      obtain rfl := Option.some.inj K
      exact jx_iret (pc := 23) rfl HQ
  · replace K := (if_neg hc2).symm.trans K
    refine jx_next (pc := 10) (pc' := 11) rfl rfl ?_
    obtain rfl := Option.some.inj K
    exact jx_iret (pc := 11) rfl HQ
/-- AndGuest$Formula.readSign(LAndGuest$Reader;)I -/
noncomputable def fFo_readSign (R : jR) (v0 : Nat) (h : jH) : Option (Int32 × jH) :=
  (Option.bind (fRd_takesSign R v0 60 h) (fun (z1 : Int32 × jH) =>
  (if z1.1 = 0 then
  (Option.bind (fRd_takesSign R v0 62 z1.2) (fun (z3 : Int32 × jH) =>
  (if z3.1 = 0 then
  (Option.bind (fRd_wantsSign R v0 61 z3.2) (fun (z5 : jH) =>
  some ((-19), z5)))
  else
  some ((-18), z3.2))))
  else
  some ((-17), z1.2))))
theorem kFo_readSign {X : jX} {d : Nat} {R : jR} {Q : Option Value → jS → Prop} {v0 : Nat} {h : jH} (hT : jTy R) (hv0 : jcl 176 v0 = 3) (hd : 5 ≤ d) {z : Int32 × jH} (K : fFo_readSign R v0 h = some z) (HQ : Q (some (.int z.1)) (176, R, z.2)) :
    jCa X d 174 [.ref v0] (176, R, h) Q := by
  obtain ⟨d, rfl⟩ : ∃ d9, d = d9 + 1 := ⟨d - 1, by omega⟩
  unfold fFo_readSign at K
  refine jCa_of (es := jc_174) (pl := [some (.ref v0)]) (M := jm_174) rfl rfl rfl rfl ?_
  refine jx_next (pc := 0) (pc' := 1) rfl rfl ?_
  refine jx_next (pc := 1) (pc' := 3) rfl rfl ?_
  refine jx_callv (pc := 3) (o := v0) (rest := []) rfl ⟨by decide, by decide⟩ rfl hv0 (Nat.le_of_ble_eq_true rfl) ?_
  obtain ⟨z1, hz_z1, K⟩ := Option.bind_eq_some_iff.mp K
  refine kRd_takesSign hT hv0 (by omega) hz_z1 ?_
  refine jx_ifeq (pc := 6) rfl (fun hc2 => ?_) (fun hc2 => ?_)
  · replace K := (if_pos hc2).symm.trans K
    refine jx_next (pc := 12) (pc' := 13) rfl rfl ?_
    refine jx_next (pc := 13) (pc' := 15) rfl rfl ?_
    refine jx_callv (pc := 15) (o := v0) (rest := []) rfl ⟨by decide, by decide⟩ rfl hv0 (Nat.le_of_ble_eq_true rfl) ?_
    obtain ⟨z3, hz_z3, K⟩ := Option.bind_eq_some_iff.mp K
    refine kRd_takesSign hT hv0 (by omega) hz_z3 ?_
    refine jx_ifeq (pc := 18) rfl (fun hc4 => ?_) (fun hc4 => ?_)
    · replace K := (if_pos hc4).symm.trans K
      refine jx_next (pc := 24) (pc' := 25) rfl rfl ?_
      refine jx_next (pc := 25) (pc' := 27) rfl rfl ?_
      refine jx_callv (pc := 27) (o := v0) (rest := []) rfl ⟨by decide, by decide⟩ rfl hv0 (Nat.le_of_ble_eq_true rfl) ?_
      obtain ⟨z5, hz_z5, K⟩ := Option.bind_eq_some_iff.mp K
      refine kRd_wantsSign hT hv0 (by omega) hz_z5 ?_
      refine jx_next (pc := 30) (pc' := 32) rfl rfl ?_
      obtain rfl := Option.some.inj K
      exact jx_iret (pc := 32) rfl HQ
    · replace K := (if_neg hc4).symm.trans K
      refine jx_next (pc := 21) (pc' := 23) rfl rfl ?_
      obtain rfl := Option.some.inj K
      exact jx_iret (pc := 23) rfl HQ
  · replace K := (if_neg hc2).symm.trans K
    refine jx_next (pc := 9) (pc' := 11) rfl rfl ?_
    obtain rfl := Option.some.inj K
    exact jx_iret (pc := 11) rfl HQ
/-- AndGuest$Reader.wantsEnd()V -/
noncomputable def fRd_wantsEnd (R : jR) (o : Nat) (h : jH) : jH :=
  (if (h.1 o 3) = 0 then
  h
  else
  (fRd_failHere R o 1 h))
theorem kRd_wantsEnd {X : jX} {d : Nat} {R : jR} {Q : Option Value → jS → Prop} {o : Nat} {h : jH} (hT : jTy R) (ho : jcl 176 o = 3) (hd : 2 ≤ d) {z : jH} (K : fRd_wantsEnd R o h = z) (HQ : Q none (176, R, z)) :
    jCa X d 175 [.ref o] (176, R, h) Q := by
  obtain ⟨d, rfl⟩ : ∃ d9, d = d9 + 1 := ⟨d - 1, by omega⟩
  unfold fRd_wantsEnd at K
  refine jCa_of (es := jc_175) (pl := [some (.ref o)]) (M := jm_175) rfl rfl rfl rfl ?_
  refine jx_next (pc := 0) (pc' := 1) rfl rfl ?_
  refine jx_geti (pc := 1) rfl ho ?_
  refine jx_ifeq (pc := 4) rfl (fun hc1 => ?_) (fun hc1 => ?_)
  · replace K := (if_pos hc1).symm.trans K
    obtain rfl := K
    exact jx_ret (pc := 12) rfl rfl HQ
  · replace K := (if_neg hc1).symm.trans K
    refine jx_next (pc := 7) (pc' := 8) rfl rfl ?_
    refine jx_next (pc := 8) (pc' := 9) rfl rfl ?_
    refine jx_callv (pc := 9) (o := o) (rest := []) rfl ⟨by decide, by decide⟩ rfl ho (Nat.le_of_ble_eq_true rfl) ?_
    refine kRd_failHere hT ho (by omega) rfl ?_
    obtain rfl := K
    exact jx_ret (pc := 12) rfl rfl HQ
/-- AndGuest$Party.valueFor(LAndGuest$Formula;I)I -/
noncomputable def fPy_valueFor (R : jR) (o : Nat) (v1 : Nat) (v2 : Int32) (h : jH) : Option (Int32 × jH) :=
  (if v2 < 0 then
  some (0, h)
  else
  (if v2 < 8 then
  (if jin v2 (jsh (R (R o 0) 3)).2 then
  (Option.bind (fPy_fillFacts R o v2 (h.1 (R (R o 0) 3) v2.toNatClampNeg) h) (fun (z4 : jH) =>
  (Option.bind (fFo_valueFor R v1 (R o 2) (R (R o 4) 17) z4) (fun (z5 : Int32 × jH) =>
  some (z5.1, z5.2)))))
  else none)
  else
  some (0, h)))
theorem kPy_valueFor {X : jX} {d : Nat} {R : jR} {Q : Option Value → jS → Prop} {o : Nat} {v1 : Nat} {v2 : Int32} {h : jH} (hT : jTy R) (ho : jcl 176 o = 8) (hv1 : jcl 176 v1 = 5) (hd : 4 ≤ d) {z : Int32 × jH} (K : fPy_valueFor R o v1 v2 h = some z) (HQ : Q (some (.int z.1)) (176, R, z.2)) :
    jCa X d 177 [.ref o, .ref v1, .int v2] (176, R, h) Q := by
  obtain ⟨d, rfl⟩ : ∃ d9, d = d9 + 1 := ⟨d - 1, by omega⟩
  unfold fPy_valueFor at K
  refine jCa_of (es := jc_177) (pl := [some (.ref o), some (.ref v1), some (.int v2)]) (M := jm_177) rfl rfl rfl rfl ?_
  refine jx_next (pc := 0) (pc' := 1) rfl rfl ?_
  refine jx_iflt (pc := 1) rfl (fun hc1 => ?_) (fun hc1 => ?_)
  · replace K := (if_pos hc1).symm.trans K
    refine jx_next (pc := 10) (pc' := 11) rfl rfl ?_
    obtain rfl := Option.some.inj K
    exact jx_iret (pc := 11) rfl HQ
  · replace K := (if_neg hc1).symm.trans K
    refine jx_next (pc := 4) (pc' := 5) rfl rfl ?_
    refine jx_next (pc := 5) (pc' := 7) rfl rfl ?_
    refine jx_iclt (pc := 7) rfl (fun hc2 => ?_) (fun hc2 => ?_)
    · replace K := (if_pos hc2).symm.trans K
      refine jx_next (pc := 12) (pc' := 13) rfl rfl ?_
      refine jx_next (pc := 13) (pc' := 14) rfl rfl ?_
      refine jx_next (pc := 14) (pc' := 15) rfl rfl ?_
      refine jx_getr (pc := 15) rfl ho ?_
      refine jx_getr (pc := 18) rfl (jtR hT ho (k := 0) (c := 6) rfl) ?_
      refine jx_next (pc := 21) (pc' := 22) rfl rfl ?_
      obtain ⟨hg3, K⟩ := jguard K
      refine jx_iald (pc := 22) rfl (jtR hT (jtR hT ho (k := 0) (c := 6) rfl) (k := 3) (c := 20) rfl) hg3 ?_
      refine jx_callv (pc := 23) (o := o) (rest := []) rfl ⟨by decide, by decide⟩ rfl ho (Nat.le_of_ble_eq_true rfl) ?_
      obtain ⟨z4, hz_z4, K⟩ := Option.bind_eq_some_iff.mp K
      refine kPy_fillFacts hT ho (by omega) hz_z4 ?_
      refine jx_next (pc := 26) (pc' := 27) rfl rfl ?_
      refine jx_next (pc := 27) (pc' := 28) rfl rfl ?_
      refine jx_getr (pc := 28) rfl ho ?_
      refine jx_next (pc := 31) (pc' := 32) rfl rfl ?_
      refine jx_getr (pc := 32) rfl ho ?_
      refine jx_getr (pc := 35) rfl (jtR hT ho (k := 4) (c := 10) rfl) ?_
      refine jx_callv (pc := 38) (o := v1) (rest := []) rfl ⟨by decide, by decide⟩ rfl hv1 (Nat.le_of_ble_eq_true rfl) ?_
      obtain ⟨z5, hz_z5, K⟩ := Option.bind_eq_some_iff.mp K
      refine kFo_valueFor hT hv1 (jtR hT ho (k := 2) (c := 20) rfl) (jtR hT (jtR hT ho (k := 4) (c := 10) rfl) (k := 17) (c := 20) rfl) (by omega) hz_z5 ?_
      obtain rfl := Option.some.inj K
      exact jx_iret (pc := 41) rfl HQ
    · replace K := (if_neg hc2).symm.trans K
      refine jx_next (pc := 10) (pc' := 11) rfl rfl ?_
      obtain rfl := Option.some.inj K
      exact jx_iret (pc := 11) rfl HQ
noncomputable def fA_answerOfTest_l7_j54 (R : jR) (o : Nat) (v1 : Int32) (v2 : Int32) (v3 : Int32) (v4 : Int32) (h : jH) : Option ((Int32 × Int32 × Int32 × jH) ⊕ (Int32 × Int32 × jH)) :=
  some (.inl (v2, v3, v4 + 1, h))
theorem kA_answerOfTest_l7_j54 {X : jX} {d : Nat} {R : jR} {Q : Option Value → jS → Prop} {o : Nat} {v1 : Int32} {v2 : Int32} {v3 : Int32} {v4 : Int32} {h : jH} (hT : jTy R) (ho : jcl 176 o = 1) (hd : 5 ≤ (d + 1)) {z : (Int32 × Int32 × Int32 × jH) ⊕ (Int32 × Int32 × jH)} (K : fA_answerOfTest_l7_j54 R o v1 v2 v3 v4 h = some z) (HL : ∀ s : Int32 × Int32 × Int32 × jH, z = .inl s → jEx X (d + 1) jc_176 7 [some (.ref o), some (.int v1), some (.int s.1), some (.int s.2.1), some (.int s.2.2.1)] [] (176, R, s.2.2.2) Q) (HE0 : ∀ x : Int32 × Int32 × jH, z = .inr x → jEx X (d + 1) jc_176 60 [none, some (.int v1), some (.int x.1), some (.int x.2.1), none] [] (176, R, x.2.2) Q) :
    jEx X (d + 1) jc_176 54 [some (.ref o), some (.int v1), some (.int v2), some (.int v3), some (.int v4)] [] (176, R, h) Q := by
  unfold fA_answerOfTest_l7_j54 at K
  refine jx_inc (pc := 54) (x := v4) (p2 := [some (.ref o), some (.int v1), some (.int v2), some (.int v3), some (.int (v4 + 1))]) rfl rfl (jlt rfl) rfl ?_
  refine jx_next (pc := 57) (pc' := 7) rfl rfl ?_
  obtain rfl := Option.some.inj K
  refine jx_le (pl' := [some (.ref o), some (.int v1), some (.int v2), some (.int v3), some (.int (v4 + 1))]) (jle_v (jle_v (jle_v (jle_v (jle_v jle_nil))))) ?_
  exact HL _ rfl
noncomputable def fA_answerOfTest_l7_j51 (R : jR) (o : Nat) (v1 : Int32) (v3 : Int32) (v4 : Int32) (h : jH) : Option ((Int32 × Int32 × Int32 × jH) ⊕ (Int32 × Int32 × jH)) :=
  fA_answerOfTest_l7_j54 R o v1 v4 v3 v4 h
theorem kA_answerOfTest_l7_j51 {X : jX} {d : Nat} {R : jR} {Q : Option Value → jS → Prop} {o : Nat} {v1 : Int32} {v3 : Int32} {v4 : Int32} {h : jH} (hT : jTy R) (ho : jcl 176 o = 1) (hd : 5 ≤ (d + 1)) {z : (Int32 × Int32 × Int32 × jH) ⊕ (Int32 × Int32 × jH)} (K : fA_answerOfTest_l7_j51 R o v1 v3 v4 h = some z) (HL : ∀ s : Int32 × Int32 × Int32 × jH, z = .inl s → jEx X (d + 1) jc_176 7 [some (.ref o), some (.int v1), some (.int s.1), some (.int s.2.1), some (.int s.2.2.1)] [] (176, R, s.2.2.2) Q) (HE0 : ∀ x : Int32 × Int32 × jH, z = .inr x → jEx X (d + 1) jc_176 60 [none, some (.int v1), some (.int x.1), some (.int x.2.1), none] [] (176, R, x.2.2) Q) :
    jEx X (d + 1) jc_176 51 [some (.ref o), some (.int v1), none, some (.int v3), some (.int v4)] [] (176, R, h) Q := by
  unfold fA_answerOfTest_l7_j51 at K
  refine jx_next (pc := 51) (pc' := 53) rfl rfl ?_
  refine jx_stin (pc := 53) (p2 := [some (.ref o), some (.int v1), some (.int v4), some (.int v3), some (.int v4)]) rfl (jlt rfl) rfl ?_
  refine jx_le (pl' := [some (.ref o), some (.int v1), some (.int v4), some (.int v3), some (.int v4)]) (jle_v (jle_v (jle_v (jle_v (jle_v jle_nil))))) ?_
  exact kA_answerOfTest_l7_j54 hT ho hd K HL HE0
noncomputable def fA_answerOfTest_l7_b (R : jR) (o : Nat) (v1 : Int32) (v2 : Int32) (v3 : Int32) (v4 : Int32) (h : jH) : Option ((Int32 × Int32 × Int32 × jH) ⊕ (Int32 × Int32 × jH)) :=
  (if v4 < (h.1 (fPy_plan R (R o 8) h) 0) then
  (Option.bind (fPy_valueFor R (R o 8) (R o 4) v4 h) (fun (z2 : Int32 × jH) =>
  (if z2.1 = 0 then
  fA_answerOfTest_l7_j54 R o v1 v2 v3 v4 z2.2
  else
  (if v1 = 1 then
  fA_answerOfTest_l7_j51 R o v1 (v3 + 1) v4 z2.2
  else
  (if v2 = (-1) then
  fA_answerOfTest_l7_j51 R o v1 (v3 + 1) v4 z2.2
  else
  fA_answerOfTest_l7_j54 R o v1 v2 (v3 + 1) v4 z2.2)))))
  else
  some (.inr (v2, v3, h)))
noncomputable def fA_answerOfTest_l7 (R : jR) (o : Nat) (v1 : Int32) : (Int32 × Int32 × Int32 × jH) → Option ((Int32 × Int32 × Int32 × jH) ⊕ (Int32 × Int32 × jH)) :=
  fun (s : Int32 × Int32 × Int32 × jH) => fA_answerOfTest_l7_b R o v1 s.1 s.2.1 s.2.2.1 s.2.2.2
theorem kA_answerOfTest_l7_b {X : jX} {d : Nat} {R : jR} {Q : Option Value → jS → Prop} {o : Nat} {v1 : Int32} {v2 : Int32} {v3 : Int32} {v4 : Int32} {h : jH} (hT : jTy R) (ho : jcl 176 o = 1) (hd : 5 ≤ (d + 1)) {z : (Int32 × Int32 × Int32 × jH) ⊕ (Int32 × Int32 × jH)} (K : fA_answerOfTest_l7_b R o v1 v2 v3 v4 h = some z) (HL : ∀ s : Int32 × Int32 × Int32 × jH, z = .inl s → jEx X (d + 1) jc_176 7 [some (.ref o), some (.int v1), some (.int s.1), some (.int s.2.1), some (.int s.2.2.1)] [] (176, R, s.2.2.2) Q) (HE0 : ∀ x : Int32 × Int32 × jH, z = .inr x → jEx X (d + 1) jc_176 60 [none, some (.int v1), some (.int x.1), some (.int x.2.1), none] [] (176, R, x.2.2) Q) :
    jEx X (d + 1) jc_176 7 [some (.ref o), some (.int v1), some (.int v2), some (.int v3), some (.int v4)] [] (176, R, h) Q := by
  unfold fA_answerOfTest_l7_b at K
  refine jx_next (pc := 7) (pc' := 9) rfl rfl ?_
  refine jx_next (pc := 9) (pc' := 10) rfl rfl ?_
  refine jx_getr (pc := 10) rfl ho ?_
  refine jx_callv (pc := 13) (o := (R o 8)) (rest := [.int v4]) rfl ⟨by decide, by decide⟩ rfl (jtR hT ho (k := 8) (c := 8) rfl) (Nat.le_of_ble_eq_true rfl) ?_
  refine kPy_plan hT (jtR hT ho (k := 8) (c := 8) rfl) (by omega) rfl ?_
  refine jx_geti (pc := 16) rfl (kPy_plan_c hT (jtR hT ho (k := 8) (c := 8) rfl)) ?_
  refine jx_icge (pc := 19) rfl (fun hc1 => ?_) (fun hc1 => ?_)
  · replace K := (if_pos hc1).symm.trans K
    refine jx_next (pc := 22) (pc' := 23) rfl rfl ?_
    refine jx_getr (pc := 23) rfl ho ?_
    refine jx_next (pc := 26) (pc' := 27) rfl rfl ?_
    refine jx_getr (pc := 27) rfl ho ?_
    refine jx_next (pc := 30) (pc' := 32) rfl rfl ?_
    refine jx_callv (pc := 32) (o := (R o 8)) (rest := []) rfl ⟨by decide, by decide⟩ rfl (jtR hT ho (k := 8) (c := 8) rfl) (Nat.le_of_ble_eq_true rfl) ?_
    obtain ⟨z2, hz_z2, K⟩ := Option.bind_eq_some_iff.mp K
    refine kPy_valueFor hT (jtR hT ho (k := 8) (c := 8) rfl) (jtR hT ho (k := 4) (c := 5) rfl) (by omega) hz_z2 ?_
    refine jx_ifeq (pc := 35) rfl (fun hc3 => ?_) (fun hc3 => ?_)
    · replace K := (if_pos hc3).symm.trans K
      refine jx_le (pl' := [some (.ref o), some (.int v1), some (.int v2), some (.int v3), some (.int v4)]) (jle_v (jle_v (jle_v (jle_v (jle_v jle_nil))))) ?_
      exact kA_answerOfTest_l7_j54 hT ho hd K HL HE0
    · replace K := (if_neg hc3).symm.trans K
      refine jx_inc (pc := 38) (x := v3) (p2 := [some (.ref o), some (.int v1), some (.int v2), some (.int (v3 + 1)), some (.int v4)]) rfl rfl (jlt rfl) rfl ?_
      refine jx_next (pc := 41) (pc' := 42) rfl rfl ?_
      refine jx_next (pc := 42) (pc' := 43) rfl rfl ?_
      refine jx_iceq (pc := 43) rfl (fun hc4 => ?_) (fun hc4 => ?_)
      · replace K := (if_pos hc4).symm.trans K
        refine jx_le (pl' := [some (.ref o), some (.int v1), none, some (.int (v3 + 1)), some (.int v4)]) (jle_v (jle_v (jle_n (jle_v (jle_v jle_nil))))) ?_
        exact kA_answerOfTest_l7_j51 hT ho hd K HL HE0
      · replace K := (if_neg hc4).symm.trans K
        refine jx_next (pc := 46) (pc' := 47) rfl rfl ?_
        refine jx_next (pc := 47) (pc' := 48) rfl rfl ?_
        refine jx_icne (pc := 48) rfl (fun hc5 => ?_) (fun hc5 => ?_)
        · replace K := (if_pos hc5).symm.trans K
          refine jx_le (pl' := [some (.ref o), some (.int v1), none, some (.int (v3 + 1)), some (.int v4)]) (jle_v (jle_v (jle_n (jle_v (jle_v jle_nil))))) ?_
          exact kA_answerOfTest_l7_j51 hT ho hd K HL HE0
        · replace K := (if_neg hc5).symm.trans K
          refine jx_le (pl' := [some (.ref o), some (.int v1), some (.int v2), some (.int (v3 + 1)), some (.int v4)]) (jle_v (jle_v (jle_v (jle_v (jle_v jle_nil))))) ?_
          exact kA_answerOfTest_l7_j54 hT ho hd K HL HE0
  · replace K := (if_neg hc1).symm.trans K
    obtain rfl := Option.some.inj K
    refine jx_le (pl' := [none, some (.int v1), some (.int v2), some (.int v3), none]) (jle_n (jle_v (jle_v (jle_v (jle_n jle_nil))))) ?_
    exact HE0 _ rfl
theorem kA_answerOfTest_l7_w {X : jX} {d : Nat} {R : jR} {Q : Option Value → jS → Prop} {o : Nat} {v1 : Int32} (hT : jTy R) (ho : jcl 176 o = 1) (hd : 5 ≤ (d + 1)) {s : Int32 × Int32 × Int32 × jH} {x : Int32 × Int32 × jH} (K : jlim (fA_answerOfTest_l7 R o v1) s = some x) (HE : jEx X (d + 1) jc_176 60 [none, some (.int v1), some (.int x.1), some (.int x.2.1), none] [] (176, R, x.2.2) Q) :
    jEx X (d + 1) jc_176 7 [some (.ref o), some (.int v1), some (.int s.1), some (.int s.2.1), some (.int s.2.2.1)] [] (176, R, s.2.2.2) Q := by
  refine jlim_ok (G := fun s : Int32 × Int32 × Int32 × jH => jEx X (d + 1) jc_176 7 [some (.ref o), some (.int v1), some (.int s.1), some (.int s.2.1), some (.int s.2.2.1)] [] (176, R, s.2.2.2) Q) (GX := fun x : Int32 × Int32 × jH => jEx X (d + 1) jc_176 60 [none, some (.int v1), some (.int x.1), some (.int x.2.1), none] [] (176, R, x.2.2) Q) (fun s z hz HL HE => ?_) K HE
  exact kA_answerOfTest_l7_b hT ho hd hz HL HE
/-- AndGuest.answerOfTest(I)J -/
noncomputable def fA_answerOfTest (R : jR) (o : Nat) (v1 : Int32) (h : jH) : Option (Int64 × jH) :=
  (Option.bind (jlim (fA_answerOfTest_l7 R o v1) ((-1), 0, 0, h)) (fun (x6 : Int32 × Int32 × jH) =>
  (if v1 = 2 then
  some (x6.2.1.toInt64, x6.2.2)
  else
  some (x6.1.toInt64, x6.2.2))))
theorem kA_answerOfTest {X : jX} {d : Nat} {R : jR} {Q : Option Value → jS → Prop} {o : Nat} {v1 : Int32} {h : jH} (hT : jTy R) (ho : jcl 176 o = 1) (hd : 5 ≤ d) {z : Int64 × jH} (K : fA_answerOfTest R o v1 h = some z) (HQ : Q (some (.long z.1)) (176, R, z.2)) :
    jCa X d 176 [.ref o, .int v1] (176, R, h) Q := by
  obtain ⟨d, rfl⟩ : ∃ d9, d = d9 + 1 := ⟨d - 1, by omega⟩
  unfold fA_answerOfTest at K
  refine jCa_of (es := jc_176) (pl := [some (.ref o), some (.int v1), none, none, none]) (M := jm_176) rfl rfl rfl rfl ?_
  refine jx_next (pc := 0) (pc' := 1) rfl rfl ?_
  refine jx_stin (pc := 1) (p2 := [some (.ref o), some (.int v1), some (.int (-1)), none, none]) rfl (jlt rfl) rfl ?_
  refine jx_next (pc := 2) (pc' := 3) rfl rfl ?_
  refine jx_stin (pc := 3) (p2 := [some (.ref o), some (.int v1), some (.int (-1)), some (.int 0), none]) rfl (jlt rfl) rfl ?_
  refine jx_next (pc := 4) (pc' := 5) rfl rfl ?_
  refine jx_sti (pc := 5) (p2 := [some (.ref o), some (.int v1), some (.int (-1)), some (.int 0), some (.int 0)]) rfl (jlt rfl) rfl ?_
  refine jx_le (pl' := [some (.ref o), some (.int v1), some (.int (-1)), some (.int 0), some (.int 0)]) (jle_v (jle_v (jle_v (jle_v (jle_v jle_nil))))) ?_
  obtain ⟨x6, hz_x6, K⟩ := Option.bind_eq_some_iff.mp K
  refine kA_answerOfTest_l7_w hT ho hd hz_x6 ?_
  refine jx_next (pc := 60) (pc' := 61) rfl rfl ?_
  refine jx_next (pc := 61) (pc' := 62) rfl rfl ?_
  refine jx_icne (pc := 62) rfl (fun hc7 => ?_) (fun hc7 => ?_)
  · replace K := (if_pos hc7).symm.trans K
    refine jx_next (pc := 65) (pc' := 66) rfl rfl ?_
    refine jx_next (pc := 66) (pc' := 67) rfl rfl ?_
    refine jx_next (pc := 67) (pc' := 72) rfl rfl ?_
    obtain rfl := Option.some.inj K
    exact jx_ret (pc := 72) rfl rfl HQ
  · replace K := (if_neg hc7).symm.trans K
    refine jx_next (pc := 70) (pc' := 71) rfl rfl ?_
    refine jx_next (pc := 71) (pc' := 72) rfl rfl ?_
    obtain rfl := Option.some.inj K
    exact jx_ret (pc := 72) rfl rfl HQ
noncomputable def fA_answerOfSum_l5_j81 (R : jR) (o : Nat) (v1 : Int32) (v2 : Int64) (v4 : Int32) (h : jH) : Option ((Int64 × Int32 × jH) ⊕ (Int64 × jH)) :=
  some (.inl (v2, v4 + 1, h))
theorem kA_answerOfSum_l5_j81 {X : jX} {d : Nat} {R : jR} {Q : Option Value → jS → Prop} {o : Nat} {v1 : Int32} {v2 : Int64} {v4 : Int32} {h : jH} (hT : jTy R) (ho : jcl 176 o = 1) (hd : 5 ≤ (d + 1)) {z : (Int64 × Int32 × jH) ⊕ (Int64 × jH)} (K : fA_answerOfSum_l5_j81 R o v1 v2 v4 h = some z) (HL : ∀ s : Int64 × Int32 × jH, z = .inl s → jEx X (d + 1) jc_178 5 [some (.ref o), some (.int v1), some (.long s.1), none, some (.int s.2.1), none, none] [] (176, R, s.2.2) Q) (HE0 : ∀ x : Int64 × jH, z = .inr x → jEx X (d + 1) jc_178 87 [none, none, some (.long x.1), none, none, none, none] [] (176, R, x.2) Q) :
    jEx X (d + 1) jc_178 81 [some (.ref o), some (.int v1), some (.long v2), none, some (.int v4), none, none] [] (176, R, h) Q := by
  unfold fA_answerOfSum_l5_j81 at K
  refine jx_inc (pc := 81) (x := v4) (p2 := [some (.ref o), some (.int v1), some (.long v2), none, some (.int (v4 + 1)), none, none]) rfl rfl (jlt rfl) rfl ?_
  refine jx_next (pc := 84) (pc' := 5) rfl rfl ?_
  obtain rfl := Option.some.inj K
  refine jx_le (pl' := [some (.ref o), some (.int v1), some (.long v2), none, some (.int (v4 + 1)), none, none]) (jle_v (jle_v (jle_v (jle_n (jle_v (jle_n (jle_n jle_nil))))))) ?_
  exact HL _ rfl
noncomputable def fA_answerOfSum_l5_j80 (R : jR) (o : Nat) (v1 : Int32) (v4 : Int32) (s0 : Int64) (h : jH) : Option ((Int64 × Int32 × jH) ⊕ (Int64 × jH)) :=
  fA_answerOfSum_l5_j81 R o v1 s0 v4 h
theorem kA_answerOfSum_l5_j80 {X : jX} {d : Nat} {R : jR} {Q : Option Value → jS → Prop} {o : Nat} {v1 : Int32} {v4 : Int32} {s0 : Int64} {h : jH} (hT : jTy R) (ho : jcl 176 o = 1) (hd : 5 ≤ (d + 1)) {z : (Int64 × Int32 × jH) ⊕ (Int64 × jH)} (K : fA_answerOfSum_l5_j80 R o v1 v4 s0 h = some z) (HL : ∀ s : Int64 × Int32 × jH, z = .inl s → jEx X (d + 1) jc_178 5 [some (.ref o), some (.int v1), some (.long s.1), none, some (.int s.2.1), none, none] [] (176, R, s.2.2) Q) (HE0 : ∀ x : Int64 × jH, z = .inr x → jEx X (d + 1) jc_178 87 [none, none, some (.long x.1), none, none, none, none] [] (176, R, x.2) Q) :
    jEx X (d + 1) jc_178 80 [some (.ref o), some (.int v1), none, none, some (.int v4), none, none] [.long s0] (176, R, h) Q := by
  unfold fA_answerOfSum_l5_j80 at K
  refine jx_stln (pc := 80) (p2 := [some (.ref o), some (.int v1), some (.long s0), none, some (.int v4), none, none]) rfl (jlt rfl) rfl ?_
  refine jx_le (pl' := [some (.ref o), some (.int v1), some (.long s0), none, some (.int v4), none, none]) (jle_v (jle_v (jle_v (jle_n (jle_v (jle_n (jle_n jle_nil))))))) ?_
  exact kA_answerOfSum_l5_j81 hT ho hd K HL HE0
noncomputable def fA_answerOfSum_l5_b (R : jR) (o : Nat) (v1 : Int32) (v2 : Int64) (v4 : Int32) (h : jH) : Option ((Int64 × Int32 × jH) ⊕ (Int64 × jH)) :=
  (if v4 < (h.1 (fPy_plan R (R o 8) h) 0) then
  (Option.bind (fPy_valueFor R (R o 8) (R o 4) v4 h) (fun (z2 : Int32 × jH) =>
  (if v1 = 3 then
  fA_answerOfSum_l5_j81 R o v1 (v2 + z2.1.toInt64) v4 z2.2
  else
  (if v4 = 0 then
  fA_answerOfSum_l5_j81 R o v1 z2.1.toInt64 v4 z2.2
  else
  (if v1 = 4 then
  fA_answerOfSum_l5_j80 R o v1 v4 (fMt_maxJ v2 z2.1.toInt64) z2.2
  else
  fA_answerOfSum_l5_j80 R o v1 v4 (fMt_minJ v2 z2.1.toInt64) z2.2)))))
  else
  some (.inr (v2, h)))
noncomputable def fA_answerOfSum_l5 (R : jR) (o : Nat) (v1 : Int32) : (Int64 × Int32 × jH) → Option ((Int64 × Int32 × jH) ⊕ (Int64 × jH)) :=
  fun (s : Int64 × Int32 × jH) => fA_answerOfSum_l5_b R o v1 s.1 s.2.1 s.2.2
theorem kA_answerOfSum_l5_b {X : jX} {d : Nat} {R : jR} {Q : Option Value → jS → Prop} {o : Nat} {v1 : Int32} {v2 : Int64} {v4 : Int32} {h : jH} (hT : jTy R) (ho : jcl 176 o = 1) (hd : 5 ≤ (d + 1)) {z : (Int64 × Int32 × jH) ⊕ (Int64 × jH)} (K : fA_answerOfSum_l5_b R o v1 v2 v4 h = some z) (HL : ∀ s : Int64 × Int32 × jH, z = .inl s → jEx X (d + 1) jc_178 5 [some (.ref o), some (.int v1), some (.long s.1), none, some (.int s.2.1), none, none] [] (176, R, s.2.2) Q) (HE0 : ∀ x : Int64 × jH, z = .inr x → jEx X (d + 1) jc_178 87 [none, none, some (.long x.1), none, none, none, none] [] (176, R, x.2) Q) :
    jEx X (d + 1) jc_178 5 [some (.ref o), some (.int v1), some (.long v2), none, some (.int v4), none, none] [] (176, R, h) Q := by
  unfold fA_answerOfSum_l5_b at K
  refine jx_next (pc := 5) (pc' := 7) rfl rfl ?_
  refine jx_next (pc := 7) (pc' := 8) rfl rfl ?_
  refine jx_getr (pc := 8) rfl ho ?_
  refine jx_callv (pc := 11) (o := (R o 8)) (rest := [.int v4]) rfl ⟨by decide, by decide⟩ rfl (jtR hT ho (k := 8) (c := 8) rfl) (Nat.le_of_ble_eq_true rfl) ?_
  refine kPy_plan hT (jtR hT ho (k := 8) (c := 8) rfl) (by omega) rfl ?_
  refine jx_geti (pc := 14) rfl (kPy_plan_c hT (jtR hT ho (k := 8) (c := 8) rfl)) ?_
  refine jx_icge (pc := 17) rfl (fun hc1 => ?_) (fun hc1 => ?_)
  · replace K := (if_pos hc1).symm.trans K
    refine jx_next (pc := 20) (pc' := 21) rfl rfl ?_
    refine jx_getr (pc := 21) rfl ho ?_
    refine jx_next (pc := 24) (pc' := 25) rfl rfl ?_
    refine jx_getr (pc := 25) rfl ho ?_
    refine jx_next (pc := 28) (pc' := 30) rfl rfl ?_
    refine jx_callv (pc := 30) (o := (R o 8)) (rest := []) rfl ⟨by decide, by decide⟩ rfl (jtR hT ho (k := 8) (c := 8) rfl) (Nat.le_of_ble_eq_true rfl) ?_
    obtain ⟨z2, hz_z2, K⟩ := Option.bind_eq_some_iff.mp K
    refine kPy_valueFor hT (jtR hT ho (k := 8) (c := 8) rfl) (jtR hT ho (k := 4) (c := 5) rfl) (by omega) hz_z2 ?_
    refine jx_next (pc := 33) (pc' := 34) rfl rfl ?_
    refine jx_stl (pc := 34) (p2 := [some (.ref o), some (.int v1), some (.long v2), none, some (.int v4), some (.long z2.1.toInt64), none]) rfl (jlt rfl) rfl ?_
    refine jx_next (pc := 36) (pc' := 37) rfl rfl ?_
    refine jx_next (pc := 37) (pc' := 38) rfl rfl ?_
    refine jx_icne (pc := 38) rfl (fun hc3 => ?_) (fun hc3 => ?_)
    · replace K := (if_pos hc3).symm.trans K
      refine jx_next (pc := 41) (pc' := 42) rfl rfl ?_
      refine jx_next (pc := 42) (pc' := 44) rfl rfl ?_
      refine jx_next (pc := 44) (pc' := 45) rfl rfl ?_
      refine jx_stln (pc := 45) (p2 := [some (.ref o), some (.int v1), some (.long (v2 + z2.1.toInt64)), none, some (.int v4), some (.long z2.1.toInt64), none]) rfl (jlt rfl) rfl ?_
      refine jx_next (pc := 46) (pc' := 81) rfl rfl ?_
      refine jx_le (pl' := [some (.ref o), some (.int v1), some (.long (v2 + z2.1.toInt64)), none, some (.int v4), none, none]) (jle_v (jle_v (jle_v (jle_n (jle_v (jle_n (jle_n jle_nil))))))) ?_
      exact kA_answerOfSum_l5_j81 hT ho hd K HL HE0
    · replace K := (if_neg hc3).symm.trans K
      refine jx_next (pc := 49) (pc' := 51) rfl rfl ?_
      refine jx_ifne (pc := 51) rfl (fun hc4 => ?_) (fun hc4 => ?_)
      · replace K := (if_pos hc4).symm.trans K
        refine jx_next (pc := 54) (pc' := 56) rfl rfl ?_
        refine jx_stln (pc := 56) (p2 := [some (.ref o), some (.int v1), some (.long z2.1.toInt64), none, some (.int v4), some (.long z2.1.toInt64), none]) rfl (jlt rfl) rfl ?_
        refine jx_next (pc := 57) (pc' := 81) rfl rfl ?_
        refine jx_le (pl' := [some (.ref o), some (.int v1), some (.long z2.1.toInt64), none, some (.int v4), none, none]) (jle_v (jle_v (jle_v (jle_n (jle_v (jle_n (jle_n jle_nil))))))) ?_
        exact kA_answerOfSum_l5_j81 hT ho hd K HL HE0
      · replace K := (if_neg hc4).symm.trans K
        refine jx_next (pc := 60) (pc' := 61) rfl rfl ?_
        refine jx_next (pc := 61) (pc' := 62) rfl rfl ?_
        refine jx_icne (pc := 62) rfl (fun hc5 => ?_) (fun hc5 => ?_)
        · replace K := (if_pos hc5).symm.trans K
          refine jx_next (pc := 65) (pc' := 66) rfl rfl ?_
          refine jx_next (pc := 66) (pc' := 68) rfl rfl ?_
          refine jx_calls (pc := 68) rfl (Nat.le_of_ble_eq_true rfl) (Nat.le_of_ble_eq_true rfl) ?_
          refine kMt_maxJ  (by omega) rfl ?_
          refine jx_next (pc := 71) (pc' := 80) rfl rfl ?_
          refine jx_le (pl' := [some (.ref o), some (.int v1), none, none, some (.int v4), none, none]) (jle_v (jle_v (jle_n (jle_n (jle_v (jle_n (jle_n jle_nil))))))) ?_
          exact kA_answerOfSum_l5_j80 hT ho hd K HL HE0
        · replace K := (if_neg hc5).symm.trans K
          refine jx_next (pc := 74) (pc' := 75) rfl rfl ?_
          refine jx_next (pc := 75) (pc' := 77) rfl rfl ?_
          refine jx_calls (pc := 77) rfl (Nat.le_of_ble_eq_true rfl) (Nat.le_of_ble_eq_true rfl) ?_
          refine kMt_minJ  (by omega) rfl ?_
          refine jx_le (pl' := [some (.ref o), some (.int v1), none, none, some (.int v4), none, none]) (jle_v (jle_v (jle_n (jle_n (jle_v (jle_n (jle_n jle_nil))))))) ?_
          exact kA_answerOfSum_l5_j80 hT ho hd K HL HE0
  · replace K := (if_neg hc1).symm.trans K
    obtain rfl := Option.some.inj K
    refine jx_le (pl' := [none, none, some (.long v2), none, none, none, none]) (jle_n (jle_n (jle_v (jle_n (jle_n (jle_n (jle_n jle_nil))))))) ?_
    exact HE0 _ rfl
theorem kA_answerOfSum_l5_w {X : jX} {d : Nat} {R : jR} {Q : Option Value → jS → Prop} {o : Nat} {v1 : Int32} (hT : jTy R) (ho : jcl 176 o = 1) (hd : 5 ≤ (d + 1)) {s : Int64 × Int32 × jH} {x : Int64 × jH} (K : jlim (fA_answerOfSum_l5 R o v1) s = some x) (HE : jEx X (d + 1) jc_178 87 [none, none, some (.long x.1), none, none, none, none] [] (176, R, x.2) Q) :
    jEx X (d + 1) jc_178 5 [some (.ref o), some (.int v1), some (.long s.1), none, some (.int s.2.1), none, none] [] (176, R, s.2.2) Q := by
  refine jlim_ok (G := fun s : Int64 × Int32 × jH => jEx X (d + 1) jc_178 5 [some (.ref o), some (.int v1), some (.long s.1), none, some (.int s.2.1), none, none] [] (176, R, s.2.2) Q) (GX := fun x : Int64 × jH => jEx X (d + 1) jc_178 87 [none, none, some (.long x.1), none, none, none, none] [] (176, R, x.2) Q) (fun s z hz HL HE => ?_) K HE
  exact kA_answerOfSum_l5_b hT ho hd hz HL HE
/-- AndGuest.answerOfSum(I)J -/
noncomputable def fA_answerOfSum (R : jR) (o : Nat) (v1 : Int32) (h : jH) : Option (Int64 × jH) :=
  (Option.bind (jlim (fA_answerOfSum_l5 R o v1) (0, 0, h)) (fun (x6 : Int64 × jH) =>
  some (x6.1, x6.2)))
theorem kA_answerOfSum {X : jX} {d : Nat} {R : jR} {Q : Option Value → jS → Prop} {o : Nat} {v1 : Int32} {h : jH} (hT : jTy R) (ho : jcl 176 o = 1) (hd : 5 ≤ d) {z : Int64 × jH} (K : fA_answerOfSum R o v1 h = some z) (HQ : Q (some (.long z.1)) (176, R, z.2)) :
    jCa X d 178 [.ref o, .int v1] (176, R, h) Q := by
  obtain ⟨d, rfl⟩ : ∃ d9, d = d9 + 1 := ⟨d - 1, by omega⟩
  unfold fA_answerOfSum at K
  refine jCa_of (es := jc_178) (pl := [some (.ref o), some (.int v1), none, none, none, none, none]) (M := jm_178) rfl rfl rfl rfl ?_
  refine jx_next (pc := 0) (pc' := 1) rfl rfl ?_
  refine jx_stln (pc := 1) (p2 := [some (.ref o), some (.int v1), some (.long 0), none, none, none, none]) rfl (jlt rfl) rfl ?_
  refine jx_next (pc := 2) (pc' := 3) rfl rfl ?_
  refine jx_sti (pc := 3) (p2 := [some (.ref o), some (.int v1), some (.long 0), none, some (.int 0), none, none]) rfl (jlt rfl) rfl ?_
  refine jx_le (pl' := [some (.ref o), some (.int v1), some (.long 0), none, some (.int 0), none, none]) (jle_v (jle_v (jle_v (jle_n (jle_v (jle_n (jle_n jle_nil))))))) ?_
  obtain ⟨x6, hz_x6, K⟩ := Option.bind_eq_some_iff.mp K
  refine kA_answerOfSum_l5_w hT ho hd hz_x6 ?_
  refine jx_next (pc := 87) (pc' := 88) rfl rfl ?_
  obtain rfl := Option.some.inj K
  exact jx_ret (pc := 88) rfl rfl HQ
