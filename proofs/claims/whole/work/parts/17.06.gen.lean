noncomputable def fPn_seenInAll_l13_j41 (o : Nat) (v1 : Int32) (v2 : Int32) (v3 : Int32) (v4 : Int32) (v5 : Int32) (h : jH) : Option ((Int32 × Int32 × Int32) ⊕ (Int32 × Int32)) :=
  some (.inl (v3, v4, v5 + 1))
theorem kPn_seenInAll_l13_j41 {X : jX} {dd : Nat} {p d : Nat} {q : Nat → Nat} {Q : Option Value → jS → Prop} {o : Nat} {v1 : Int32} {v2 : Int32} {v3 : Int32} {v4 : Int32} {v5 : Int32} {h : jH} (hP : jOK p d q) (ho : jcl 176 o = 10) (hd : 2 ≤ (dd + 1)) {z : (Int32 × Int32 × Int32) ⊕ (Int32 × Int32)} (K : fPn_seenInAll_l13_j41 o v1 v2 v3 v4 v5 h = some z) (HL : ∀ s : Int32 × Int32 × Int32, z = .inl s → jEx X (dd + 1) jc_151 13 [some (.ref o), some (.int v1), some (.int v2), some (.int s.1), some (.int s.2.1), some (.int s.2.2)] [] (176, jRf p d q, h) Q) (HE0 : ∀ x : Int32 × Int32, z = .inr x → jEx X (dd + 1) jc_151 47 [none, none, none, some (.int x.1), some (.int x.2), none] [] (176, jRf p d q, h) Q) :
    jEx X (dd + 1) jc_151 41 [some (.ref o), some (.int v1), some (.int v2), some (.int v3), some (.int v4), some (.int v5)] [] (176, jRf p d q, h) Q := by
  unfold fPn_seenInAll_l13_j41 at K
  refine jx_inc (pc := 41) (x := v5) (p2 := [some (.ref o), some (.int v1), some (.int v2), some (.int v3), some (.int v4), some (.int (v5 + 1))]) rfl rfl (jlt rfl) rfl ?_
  refine jx_next (pc := 44) (pc' := 13) rfl rfl ?_
  obtain rfl := Option.some.inj K
  refine jx_le (pl' := [some (.ref o), some (.int v1), some (.int v2), some (.int v3), some (.int v4), some (.int (v5 + 1))]) (jle_v (jle_v (jle_v (jle_v (jle_v (jle_v jle_nil)))))) ?_
  exact HL (v3, v4, v5 + 1) rfl
noncomputable def fPn_seenInAll_l13_b (o : Nat) (v1 : Int32) (v2 : Int32) (v3 : Int32) (v4 : Int32) (v5 : Int32) (h : jH) : Option ((Int32 × Int32 × Int32) ⊕ (Int32 × Int32)) :=
  (if v5 < (fPn_allSets o h) then
  (Option.bind (fPn_isSeen o v5 v1 v2 h) (fun (z4 : Int32) =>
  (if z4 = 0 then
  fPn_seenInAll_l13_j41  o v1 v2 v3 v4 v5 h
  else
  fPn_seenInAll_l13_j41  o v1 v2 (v3 &&& v5) 1 v5 h)))
  else
  some (.inr (v3, v4)))
noncomputable def fPn_seenInAll_l13 (o : Nat) (v1 : Int32) (v2 : Int32) (h : jH) : (Int32 × Int32 × Int32) → Option ((Int32 × Int32 × Int32) ⊕ (Int32 × Int32)) :=
  fun (s : Int32 × Int32 × Int32) => fPn_seenInAll_l13_b o v1 v2 s.1 s.2.1 s.2.2 h
theorem kPn_seenInAll_l13_b {X : jX} {dd : Nat} {p d : Nat} {q : Nat → Nat} {Q : Option Value → jS → Prop} {o : Nat} {v1 : Int32} {v2 : Int32} {v3 : Int32} {v4 : Int32} {v5 : Int32} {h : jH} (hP : jOK p d q) (ho : jcl 176 o = 10) (hd : 2 ≤ (dd + 1)) {z : (Int32 × Int32 × Int32) ⊕ (Int32 × Int32)} (K : fPn_seenInAll_l13_b o v1 v2 v3 v4 v5 h = some z) (HL : ∀ s : Int32 × Int32 × Int32, z = .inl s → jEx X (dd + 1) jc_151 13 [some (.ref o), some (.int v1), some (.int v2), some (.int s.1), some (.int s.2.1), some (.int s.2.2)] [] (176, jRf p d q, h) Q) (HE0 : ∀ x : Int32 × Int32, z = .inr x → jEx X (dd + 1) jc_151 47 [none, none, none, some (.int x.1), some (.int x.2), none] [] (176, jRf p d q, h) Q) :
    jEx X (dd + 1) jc_151 13 [some (.ref o), some (.int v1), some (.int v2), some (.int v3), some (.int v4), some (.int v5)] [] (176, jRf p d q, h) Q := by
  unfold fPn_seenInAll_l13_b at K
  refine jx_next (pc := 13) (pc' := 15) rfl rfl ?_
  refine jx_next (pc := 15) (pc' := 16) rfl rfl ?_
  refine jx_callv (pc := 16) (o := o) (rest := [.int v5]) rfl ⟨by decide, by decide⟩ rfl ho (Nat.le_of_ble_eq_true rfl) ?_
  refine kPn_allSets hP ho (by omega) rfl ?_
  refine jx_icge (pc := 19) rfl (fun hc3 => ?_) (fun hc3 => ?_)
  · replace K := (if_pos hc3).symm.trans K
    refine jx_next (pc := 22) (pc' := 23) rfl rfl ?_
    refine jx_next (pc := 23) (pc' := 25) rfl rfl ?_
    refine jx_next (pc := 25) (pc' := 26) rfl rfl ?_
    refine jx_next (pc := 26) (pc' := 27) rfl rfl ?_
    refine jx_callv (pc := 27) (o := o) (rest := []) rfl ⟨by decide, by decide⟩ rfl ho (Nat.le_of_ble_eq_true rfl) ?_
    obtain ⟨z4, hz_z4, K⟩ := Option.bind_eq_some_iff.mp K
    refine kPn_isSeen hP ho (by omega) hz_z4 ?_
    refine jx_ifeq (pc := 30) rfl (fun hc5 => ?_) (fun hc5 => ?_)
    · replace K := (if_pos hc5).symm.trans K
      refine jx_le (pl' := [some (.ref o), some (.int v1), some (.int v2), some (.int v3), some (.int v4), some (.int v5)]) (jle_v (jle_v (jle_v (jle_v (jle_v (jle_v jle_nil)))))) ?_
      exact kPn_seenInAll_l13_j41 hP ho hd K HL HE0
    · replace K := (if_neg hc5).symm.trans K
      refine jx_next (pc := 33) (pc' := 34) rfl rfl ?_
      refine jx_next (pc := 34) (pc' := 36) rfl rfl ?_
      refine jx_next (pc := 36) (pc' := 37) rfl rfl ?_
      refine jx_stin (pc := 37) (p2 := [some (.ref o), some (.int v1), some (.int v2), some (.int (v3 &&& v5)), some (.int v4), some (.int v5)]) rfl (jlt rfl) rfl ?_
      refine jx_next (pc := 38) (pc' := 39) rfl rfl ?_
      refine jx_sti (pc := 39) (p2 := [some (.ref o), some (.int v1), some (.int v2), some (.int (v3 &&& v5)), some (.int 1), some (.int v5)]) rfl (jlt rfl) rfl ?_
      refine jx_le (pl' := [some (.ref o), some (.int v1), some (.int v2), some (.int (v3 &&& v5)), some (.int 1), some (.int v5)]) (jle_v (jle_v (jle_v (jle_v (jle_v (jle_v jle_nil)))))) ?_
      exact kPn_seenInAll_l13_j41 hP ho hd K HL HE0
  · replace K := (if_neg hc3).symm.trans K
    obtain rfl := Option.some.inj K
    refine jx_le (pl' := [none, none, none, some (.int v3), some (.int v4), none]) (jle_n (jle_n (jle_n (jle_v (jle_v (jle_n jle_nil)))))) ?_
    exact HE0 _ rfl
theorem kPn_seenInAll_l13_w {X : jX} {dd : Nat} {p d : Nat} {q : Nat → Nat} {Q : Option Value → jS → Prop} {o : Nat} {v1 : Int32} {v2 : Int32} {h : jH} (hP : jOK p d q) (ho : jcl 176 o = 10) (hd : 2 ≤ (dd + 1)) {s : Int32 × Int32 × Int32} {x : Int32 × Int32} (K : jlim (fPn_seenInAll_l13 o v1 v2 h) s = some x) (HE : jEx X (dd + 1) jc_151 47 [none, none, none, some (.int x.1), some (.int x.2), none] [] (176, jRf p d q, h) Q) :
    jEx X (dd + 1) jc_151 13 [some (.ref o), some (.int v1), some (.int v2), some (.int s.1), some (.int s.2.1), some (.int s.2.2)] [] (176, jRf p d q, h) Q := by
  refine jlim_ok (G := fun s : Int32 × Int32 × Int32 => jEx X (dd + 1) jc_151 13 [some (.ref o), some (.int v1), some (.int v2), some (.int s.1), some (.int s.2.1), some (.int s.2.2)] [] (176, jRf p d q, h) Q) (GX := fun x : Int32 × Int32 => jEx X (dd + 1) jc_151 47 [none, none, none, some (.int x.1), some (.int x.2), none] [] (176, jRf p d q, h) Q) (fun s z hz HL HE => ?_) K HE
  exact kPn_seenInAll_l13_b hP ho hd hz HL HE
/-- AndGuest$Plan.seenInAll(II)I -/
noncomputable def fPn_seenInAll (o : Nat) (v1 : Int32) (v2 : Int32) (h : jH) : Option Int32 :=
  (Option.bind (jlim (fPn_seenInAll_l13  o v1 v2 h) ((fPn_allSets o h) - 1, 0, 0)) (fun (x6 : Int32 × Int32) =>
  (if x6.2 = 0 then
  some (0 : Int32)
  else
  some (x6.1 : Int32))))
theorem kPn_seenInAll {X : jX} {dd : Nat} {p d : Nat} {q : Nat → Nat} {Q : Option Value → jS → Prop} {o : Nat} {v1 : Int32} {v2 : Int32} {h : jH} (hP : jOK p d q) (ho : jcl 176 o = 10) (hd : 2 ≤ dd) {z : Int32} (K : fPn_seenInAll o v1 v2 h = some z) (HQ : Q (some (.int z)) (176, jRf p d q, h)) :
    jCa X dd 151 [.ref o, .int v1, .int v2] (176, jRf p d q, h) Q := by
  obtain ⟨dd, rfl⟩ : ∃ d9, dd = d9 + 1 := ⟨dd - 1, by omega⟩
  unfold fPn_seenInAll at K
  refine jCa_of (es := jc_151) (pl := [some (.ref o), some (.int v1), some (.int v2), none, none, none]) (M := jm_151) rfl rfl rfl rfl ?_
  refine jx_next (pc := 0) (pc' := 1) rfl rfl ?_
  refine jx_callv (pc := 1) (o := o) (rest := []) rfl ⟨by decide, by decide⟩ rfl ho (Nat.le_of_ble_eq_true rfl) ?_
  refine kPn_allSets hP ho (by omega) rfl ?_
  refine jx_next (pc := 4) (pc' := 5) rfl rfl ?_
  refine jx_next (pc := 5) (pc' := 6) rfl rfl ?_
  refine jx_stin (pc := 6) (p2 := [some (.ref o), some (.int v1), some (.int v2), some (.int ((fPn_allSets o h) - 1)), none, none]) rfl (jlt rfl) rfl ?_
  refine jx_next (pc := 7) (pc' := 8) rfl rfl ?_
  refine jx_sti (pc := 8) (p2 := [some (.ref o), some (.int v1), some (.int v2), some (.int ((fPn_allSets o h) - 1)), some (.int 0), none]) rfl (jlt rfl) rfl ?_
  refine jx_next (pc := 10) (pc' := 11) rfl rfl ?_
  refine jx_sti (pc := 11) (p2 := [some (.ref o), some (.int v1), some (.int v2), some (.int ((fPn_allSets o h) - 1)), some (.int 0), some (.int 0)]) rfl (jlt rfl) rfl ?_
  refine jx_le (pl' := [some (.ref o), some (.int v1), some (.int v2), some (.int ((fPn_allSets o h) - 1)), some (.int 0), some (.int 0)]) (jle_v (jle_v (jle_v (jle_v (jle_v (jle_v jle_nil)))))) ?_
  obtain ⟨x6, hz_x6, K⟩ := Option.bind_eq_some_iff.mp K
  refine kPn_seenInAll_l13_w hP ho hd hz_x6 ?_
  refine jx_next (pc := 47) (pc' := 49) rfl rfl ?_
  refine jx_ifeq (pc := 49) rfl (fun hc7 => ?_) (fun hc7 => ?_)
  · replace K := (if_pos hc7).symm.trans K
    refine jx_next (pc := 56) (pc' := 57) rfl rfl ?_
    obtain rfl := Option.some.inj K
    exact jx_iret (pc := 57) rfl HQ
  · replace K := (if_neg hc7).symm.trans K
    refine jx_next (pc := 52) (pc' := 53) rfl rfl ?_
    refine jx_next (pc := 53) (pc' := 57) rfl rfl ?_
    obtain rfl := Option.some.inj K
    exact jx_iret (pc := 57) rfl HQ
noncomputable def fPn_seenInSome_l5_j30 (o : Nat) (v1 : Int32) (v2 : Int32) (v3 : Int32) (v4 : Int32) (h : jH) : Option ((Int32 × Int32) ⊕ (Int32)) :=
  some (.inl (v3, v4 + 1))
theorem kPn_seenInSome_l5_j30 {X : jX} {dd : Nat} {p d : Nat} {q : Nat → Nat} {Q : Option Value → jS → Prop} {o : Nat} {v1 : Int32} {v2 : Int32} {v3 : Int32} {v4 : Int32} {h : jH} (hP : jOK p d q) (ho : jcl 176 o = 10) (hd : 2 ≤ (dd + 1)) {z : (Int32 × Int32) ⊕ (Int32)} (K : fPn_seenInSome_l5_j30 o v1 v2 v3 v4 h = some z) (HL : ∀ s : Int32 × Int32, z = .inl s → jEx X (dd + 1) jc_152 5 [some (.ref o), some (.int v1), some (.int v2), some (.int s.1), some (.int s.2)] [] (176, jRf p d q, h) Q) (HE0 : ∀ x : Int32, z = .inr x → jEx X (dd + 1) jc_152 36 [none, none, none, some (.int x), none] [] (176, jRf p d q, h) Q) :
    jEx X (dd + 1) jc_152 30 [some (.ref o), some (.int v1), some (.int v2), some (.int v3), some (.int v4)] [] (176, jRf p d q, h) Q := by
  unfold fPn_seenInSome_l5_j30 at K
  refine jx_inc (pc := 30) (x := v4) (p2 := [some (.ref o), some (.int v1), some (.int v2), some (.int v3), some (.int (v4 + 1))]) rfl rfl (jlt rfl) rfl ?_
  refine jx_next (pc := 33) (pc' := 5) rfl rfl ?_
  obtain rfl := Option.some.inj K
  refine jx_le (pl' := [some (.ref o), some (.int v1), some (.int v2), some (.int v3), some (.int (v4 + 1))]) (jle_v (jle_v (jle_v (jle_v (jle_v jle_nil))))) ?_
  exact HL (v3, v4 + 1) rfl
noncomputable def fPn_seenInSome_l5_b (o : Nat) (v1 : Int32) (v2 : Int32) (v3 : Int32) (v4 : Int32) (h : jH) : Option ((Int32 × Int32) ⊕ (Int32)) :=
  (if v4 < (fPn_allSets o h) then
  (Option.bind (fPn_isSeen o v4 v1 v2 h) (fun (z3 : Int32) =>
  (if z3 = 0 then
  fPn_seenInSome_l5_j30  o v1 v2 v3 v4 h
  else
  fPn_seenInSome_l5_j30  o v1 v2 (v3 ||| v4) v4 h)))
  else
  some (.inr v3))
noncomputable def fPn_seenInSome_l5 (o : Nat) (v1 : Int32) (v2 : Int32) (h : jH) : (Int32 × Int32) → Option ((Int32 × Int32) ⊕ (Int32)) :=
  fun (s : Int32 × Int32) => fPn_seenInSome_l5_b o v1 v2 s.1 s.2 h
theorem kPn_seenInSome_l5_b {X : jX} {dd : Nat} {p d : Nat} {q : Nat → Nat} {Q : Option Value → jS → Prop} {o : Nat} {v1 : Int32} {v2 : Int32} {v3 : Int32} {v4 : Int32} {h : jH} (hP : jOK p d q) (ho : jcl 176 o = 10) (hd : 2 ≤ (dd + 1)) {z : (Int32 × Int32) ⊕ (Int32)} (K : fPn_seenInSome_l5_b o v1 v2 v3 v4 h = some z) (HL : ∀ s : Int32 × Int32, z = .inl s → jEx X (dd + 1) jc_152 5 [some (.ref o), some (.int v1), some (.int v2), some (.int s.1), some (.int s.2)] [] (176, jRf p d q, h) Q) (HE0 : ∀ x : Int32, z = .inr x → jEx X (dd + 1) jc_152 36 [none, none, none, some (.int x), none] [] (176, jRf p d q, h) Q) :
    jEx X (dd + 1) jc_152 5 [some (.ref o), some (.int v1), some (.int v2), some (.int v3), some (.int v4)] [] (176, jRf p d q, h) Q := by
  unfold fPn_seenInSome_l5_b at K
  refine jx_next (pc := 5) (pc' := 7) rfl rfl ?_
  refine jx_next (pc := 7) (pc' := 8) rfl rfl ?_
  refine jx_callv (pc := 8) (o := o) (rest := [.int v4]) rfl ⟨by decide, by decide⟩ rfl ho (Nat.le_of_ble_eq_true rfl) ?_
  refine kPn_allSets hP ho (by omega) rfl ?_
  refine jx_icge (pc := 11) rfl (fun hc2 => ?_) (fun hc2 => ?_)
  · replace K := (if_pos hc2).symm.trans K
    refine jx_next (pc := 14) (pc' := 15) rfl rfl ?_
    refine jx_next (pc := 15) (pc' := 17) rfl rfl ?_
    refine jx_next (pc := 17) (pc' := 18) rfl rfl ?_
    refine jx_next (pc := 18) (pc' := 19) rfl rfl ?_
    refine jx_callv (pc := 19) (o := o) (rest := []) rfl ⟨by decide, by decide⟩ rfl ho (Nat.le_of_ble_eq_true rfl) ?_
    obtain ⟨z3, hz_z3, K⟩ := Option.bind_eq_some_iff.mp K
    refine kPn_isSeen hP ho (by omega) hz_z3 ?_
    refine jx_ifeq (pc := 22) rfl (fun hc4 => ?_) (fun hc4 => ?_)
    · replace K := (if_pos hc4).symm.trans K
      refine jx_le (pl' := [some (.ref o), some (.int v1), some (.int v2), some (.int v3), some (.int v4)]) (jle_v (jle_v (jle_v (jle_v (jle_v jle_nil))))) ?_
      exact kPn_seenInSome_l5_j30 hP ho hd K HL HE0
    · replace K := (if_neg hc4).symm.trans K
      refine jx_next (pc := 25) (pc' := 26) rfl rfl ?_
      refine jx_next (pc := 26) (pc' := 28) rfl rfl ?_
      refine jx_next (pc := 28) (pc' := 29) rfl rfl ?_
      refine jx_stin (pc := 29) (p2 := [some (.ref o), some (.int v1), some (.int v2), some (.int (v3 ||| v4)), some (.int v4)]) rfl (jlt rfl) rfl ?_
      refine jx_le (pl' := [some (.ref o), some (.int v1), some (.int v2), some (.int (v3 ||| v4)), some (.int v4)]) (jle_v (jle_v (jle_v (jle_v (jle_v jle_nil))))) ?_
      exact kPn_seenInSome_l5_j30 hP ho hd K HL HE0
  · replace K := (if_neg hc2).symm.trans K
    obtain rfl := Option.some.inj K
    refine jx_le (pl' := [none, none, none, some (.int v3), none]) (jle_n (jle_n (jle_n (jle_v (jle_n jle_nil))))) ?_
    exact HE0 _ rfl
theorem kPn_seenInSome_l5_w {X : jX} {dd : Nat} {p d : Nat} {q : Nat → Nat} {Q : Option Value → jS → Prop} {o : Nat} {v1 : Int32} {v2 : Int32} {h : jH} (hP : jOK p d q) (ho : jcl 176 o = 10) (hd : 2 ≤ (dd + 1)) {s : Int32 × Int32} {x : Int32} (K : jlim (fPn_seenInSome_l5 o v1 v2 h) s = some x) (HE : jEx X (dd + 1) jc_152 36 [none, none, none, some (.int x), none] [] (176, jRf p d q, h) Q) :
    jEx X (dd + 1) jc_152 5 [some (.ref o), some (.int v1), some (.int v2), some (.int s.1), some (.int s.2)] [] (176, jRf p d q, h) Q := by
  refine jlim_ok (G := fun s : Int32 × Int32 => jEx X (dd + 1) jc_152 5 [some (.ref o), some (.int v1), some (.int v2), some (.int s.1), some (.int s.2)] [] (176, jRf p d q, h) Q) (GX := fun x : Int32 => jEx X (dd + 1) jc_152 36 [none, none, none, some (.int x), none] [] (176, jRf p d q, h) Q) (fun s z hz HL HE => ?_) K HE
  exact kPn_seenInSome_l5_b hP ho hd hz HL HE
/-- AndGuest$Plan.seenInSome(II)I -/
noncomputable def fPn_seenInSome (o : Nat) (v1 : Int32) (v2 : Int32) (h : jH) : Option Int32 :=
  (Option.bind (jlim (fPn_seenInSome_l5  o v1 v2 h) (0, 0)) (fun (x5 : Int32) =>
  some (x5 : Int32)))
theorem kPn_seenInSome {X : jX} {dd : Nat} {p d : Nat} {q : Nat → Nat} {Q : Option Value → jS → Prop} {o : Nat} {v1 : Int32} {v2 : Int32} {h : jH} (hP : jOK p d q) (ho : jcl 176 o = 10) (hd : 2 ≤ dd) {z : Int32} (K : fPn_seenInSome o v1 v2 h = some z) (HQ : Q (some (.int z)) (176, jRf p d q, h)) :
    jCa X dd 152 [.ref o, .int v1, .int v2] (176, jRf p d q, h) Q := by
  obtain ⟨dd, rfl⟩ : ∃ d9, dd = d9 + 1 := ⟨dd - 1, by omega⟩
  unfold fPn_seenInSome at K
  refine jCa_of (es := jc_152) (pl := [some (.ref o), some (.int v1), some (.int v2), none, none]) (M := jm_152) rfl rfl rfl rfl ?_
  refine jx_next (pc := 0) (pc' := 1) rfl rfl ?_
  refine jx_stin (pc := 1) (p2 := [some (.ref o), some (.int v1), some (.int v2), some (.int 0), none]) rfl (jlt rfl) rfl ?_
  refine jx_next (pc := 2) (pc' := 3) rfl rfl ?_
  refine jx_sti (pc := 3) (p2 := [some (.ref o), some (.int v1), some (.int v2), some (.int 0), some (.int 0)]) rfl (jlt rfl) rfl ?_
  refine jx_le (pl' := [some (.ref o), some (.int v1), some (.int v2), some (.int 0), some (.int 0)]) (jle_v (jle_v (jle_v (jle_v (jle_v jle_nil))))) ?_
  obtain ⟨x5, hz_x5, K⟩ := Option.bind_eq_some_iff.mp K
  refine kPn_seenInSome_l5_w hP ho hd hz_x5 ?_
  refine jx_next (pc := 36) (pc' := 37) rfl rfl ?_
  obtain rfl := Option.some.inj K
  exact jx_iret (pc := 37) rfl HQ
/-- AndGuest.seen(III)I -/
noncomputable def fA_seen (p : Nat) (v1 : Int32) (v2 : Int32) (v3 : Int32) (h : jH) : Option Int32 :=
  (if (h.1 1 12) = 0 then
  some ((-1) : Int32)
  else
  (if v1 < 0 then
  some ((-1) : Int32)
  else
  (if 32 < v1 then
  some ((-1) : Int32)
  else
  (if v2 < 0 then
  some ((-1) : Int32)
  else
  (if 792 < v2 then
  some ((-1) : Int32)
  else
  (if v3 = 0 then
  (Option.bind (fPn_seenCount p v1 v2 h) (fun (z7 : Int32) =>
  some (z7 : Int32)))
  else
  (if v3 = 1 then
  (Option.bind (fPn_seenInAll p v1 v2 h) (fun (z9 : Int32) =>
  some (z9 : Int32)))
  else
  (if v3 = 2 then
  (Option.bind (fPn_seenInSome p v1 v2 h) (fun (z11 : Int32) =>
  some (z11 : Int32)))
  else
  some ((-1) : Int32)))))))))
theorem kA_seen {X : jX} {dd : Nat} {p d : Nat} {q : Nat → Nat} {Q : Option Value → jS → Prop} {v1 : Int32} {v2 : Int32} {v3 : Int32} {h : jH} (hP : jOK p d q)  (hd : 3 ≤ dd) {z : Int32} (K : fA_seen p v1 v2 v3 h = some z) (HQ : Q (some (.int z)) (176, jRf p d q, h)) :
    jCa X dd 148 [.ref 1, .int v1, .int v2, .int v3] (176, jRf p d q, h) Q := by
  obtain ⟨dd, rfl⟩ : ∃ d9, dd = d9 + 1 := ⟨dd - 1, by omega⟩
  unfold fA_seen at K
  refine jCa_of (es := jc_148) (pl := [some (.ref 1), some (.int v1), some (.int v2), some (.int v3)]) (M := jm_148) rfl rfl rfl rfl ?_
  refine jx_next (pc := 0) (pc' := 1) rfl rfl ?_
  refine jx_getz (pc := 1) rfl jko_1 ?_
  refine jx_ifeq (pc := 4) rfl (fun hc1 => ?_) (fun hc1 => ?_)
  · replace K := (if_pos hc1).symm.trans K
    refine jx_next (pc := 28) (pc' := 29) rfl rfl ?_
    obtain rfl := Option.some.inj K
    exact jx_iret (pc := 29) rfl HQ
  · replace K := (if_neg hc1).symm.trans K
    refine jx_next (pc := 7) (pc' := 8) rfl rfl ?_
    refine jx_iflt (pc := 8) rfl (fun hc2 => ?_) (fun hc2 => ?_)
    · replace K := (if_pos hc2).symm.trans K
      refine jx_next (pc := 28) (pc' := 29) rfl rfl ?_
      obtain rfl := Option.some.inj K
      exact jx_iret (pc := 29) rfl HQ
    · replace K := (if_neg hc2).symm.trans K
      refine jx_next (pc := 11) (pc' := 12) rfl rfl ?_
      refine jx_next (pc := 12) (pc' := 14) rfl rfl ?_
      refine jx_icgt (pc := 14) rfl (fun hc3 => ?_) (fun hc3 => ?_)
      · replace K := (if_pos hc3).symm.trans K
        refine jx_next (pc := 28) (pc' := 29) rfl rfl ?_
        obtain rfl := Option.some.inj K
        exact jx_iret (pc := 29) rfl HQ
      · replace K := (if_neg hc3).symm.trans K
        refine jx_next (pc := 17) (pc' := 18) rfl rfl ?_
        refine jx_iflt (pc := 18) rfl (fun hc4 => ?_) (fun hc4 => ?_)
        · replace K := (if_pos hc4).symm.trans K
          refine jx_next (pc := 28) (pc' := 29) rfl rfl ?_
          obtain rfl := Option.some.inj K
          exact jx_iret (pc := 29) rfl HQ
        · replace K := (if_neg hc4).symm.trans K
          refine jx_next (pc := 21) (pc' := 22) rfl rfl ?_
          refine jx_next (pc := 22) (pc' := 25) rfl rfl ?_
          refine jx_icle (pc := 25) rfl (fun hc5 => ?_) (fun hc5 => ?_)
          · replace K := (if_pos hc5).symm.trans K
            refine jx_next (pc := 28) (pc' := 29) rfl rfl ?_
            obtain rfl := Option.some.inj K
            exact jx_iret (pc := 29) rfl HQ
          · replace K := (if_neg hc5).symm.trans K
            refine jx_next (pc := 30) (pc' := 31) rfl rfl ?_
            refine jx_tsw (pc := 31) rfl ?_
            refine jx_sw1 (fun hc14 => ?_) (fun hc14 => ?_)
            · replace K := (if_pos hc14).symm.trans K
              refine jx_next (pc := 56) (pc' := 57) rfl rfl ?_
              refine jx_getr2 (pc := 57) rfl jko_1 jr_1_8 ?_
              refine jx_callv (pc := 60) (o := 79) (rest := []) rfl ⟨by decide, by decide⟩ rfl jko_79 (Nat.le_of_ble_eq_true rfl) ?_
              refine kPy_plan hP (by omega) rfl ?_
              refine jx_next (pc := 63) (pc' := 64) rfl rfl ?_
              refine jx_next (pc := 64) (pc' := 65) rfl rfl ?_
              refine jx_callv (pc := 65) (o := p) (rest := []) rfl ⟨by decide, by decide⟩ rfl hP.1 (Nat.le_of_ble_eq_true rfl) ?_
              obtain ⟨z7, hz_z7, K⟩ := Option.bind_eq_some_iff.mp K
              refine kPn_seenCount hP hP.1 (by omega) hz_z7 ?_
              obtain rfl := Option.some.inj K
              exact jx_iret (pc := 68) rfl HQ
            · replace K := (if_neg hc14).symm.trans K
              refine jx_sw1 (fun hc13 => ?_) (fun hc13 => ?_)
              · replace K := (if_pos hc13).symm.trans K
                refine jx_next (pc := 69) (pc' := 70) rfl rfl ?_
                refine jx_getr2 (pc := 70) rfl jko_1 jr_1_8 ?_
                refine jx_callv (pc := 73) (o := 79) (rest := []) rfl ⟨by decide, by decide⟩ rfl jko_79 (Nat.le_of_ble_eq_true rfl) ?_
                refine kPy_plan hP (by omega) rfl ?_
                refine jx_next (pc := 76) (pc' := 77) rfl rfl ?_
                refine jx_next (pc := 77) (pc' := 78) rfl rfl ?_
                refine jx_callv (pc := 78) (o := p) (rest := []) rfl ⟨by decide, by decide⟩ rfl hP.1 (Nat.le_of_ble_eq_true rfl) ?_
                obtain ⟨z9, hz_z9, K⟩ := Option.bind_eq_some_iff.mp K
                refine kPn_seenInAll hP hP.1 (by omega) hz_z9 ?_
                obtain rfl := Option.some.inj K
                exact jx_iret (pc := 81) rfl HQ
              · replace K := (if_neg hc13).symm.trans K
                refine jx_sw1 (fun hc12 => ?_) (fun hc12 => ?_)
                · replace K := (if_pos hc12).symm.trans K
                  refine jx_next (pc := 82) (pc' := 83) rfl rfl ?_
                  refine jx_getr2 (pc := 83) rfl jko_1 jr_1_8 ?_
                  refine jx_callv (pc := 86) (o := 79) (rest := []) rfl ⟨by decide, by decide⟩ rfl jko_79 (Nat.le_of_ble_eq_true rfl) ?_
                  refine kPy_plan hP (by omega) rfl ?_
                  refine jx_next (pc := 89) (pc' := 90) rfl rfl ?_
                  refine jx_next (pc := 90) (pc' := 91) rfl rfl ?_
                  refine jx_callv (pc := 91) (o := p) (rest := []) rfl ⟨by decide, by decide⟩ rfl hP.1 (Nat.le_of_ble_eq_true rfl) ?_
                  obtain ⟨z11, hz_z11, K⟩ := Option.bind_eq_some_iff.mp K
                  refine kPn_seenInSome hP hP.1 (by omega) hz_z11 ?_
                  obtain rfl := Option.some.inj K
                  exact jx_iret (pc := 94) rfl HQ
                · replace K := (if_neg hc12).symm.trans K
                  refine jx_sw0 ?_
                  refine jx_next (pc := 95) (pc' := 96) rfl rfl ?_
                  obtain rfl := Option.some.inj K
                  exact jx_iret (pc := 96) rfl HQ
noncomputable def fPa_dropOldest_l9_b (q : (Nat → Nat)) (v1 : Nat) (v2 : Int32) (h : jH) : Option ((Int32 × (Nat → Nat)) ⊕ ((Nat → Nat))) :=
  (if v2 < 20 then
  (if jin v2 20 then
  (if jin (v2 - 1) 20 then
  some (.inl (v2 + 1, jqs q ((v2 - 1).toNatClampNeg) (q v2.toNatClampNeg)))
  else none)
  else none)
  else
  some (.inr q))
noncomputable def fPa_dropOldest_l9 (v1 : Nat) (h : jH) : (Int32 × (Nat → Nat)) → Option ((Int32 × (Nat → Nat)) ⊕ ((Nat → Nat))) :=
  fun (s : Int32 × (Nat → Nat)) => fPa_dropOldest_l9_b s.2 v1 s.1 h
theorem kPa_dropOldest_l9_b {X : jX} {dd : Nat} {p d : Nat} {q : Nat → Nat} {Q : Option Value → jS → Prop} {v1 : Nat} {v2 : Int32} {h : jH} (hP : jOK p d q) (hv1 : jcl 176 v1 = 6) (hd : 0 ≤ dd) {z : (Int32 × (Nat → Nat)) ⊕ ((Nat → Nat))} (K : fPa_dropOldest_l9_b q v1 v2 h = some z) (HL : ∀ s : Int32 × (Nat → Nat), z = .inl s → jOK p d s.2 → jEx X dd jc_155 9 [some (.ref 17), some (.ref v1), some (.int s.1)] [] (176, jRf p d s.2, h) Q) (HE0 : ∀ x : (Nat → Nat), z = .inr x → jOK p d x → jEx X dd jc_155 35 [some (.ref 17), some (.ref v1), none] [] (176, jRf p d x, h) Q) :
    jEx X dd jc_155 9 [some (.ref 17), some (.ref v1), some (.int v2)] [] (176, jRf p d q, h) Q := by
  unfold fPa_dropOldest_l9_b at K
  refine jx_next (pc := 9) (pc' := 10) rfl rfl ?_
  refine jx_next (pc := 10) (pc' := 12) rfl rfl ?_
  refine jx_icge (pc := 12) rfl (fun hc2 => ?_) (fun hc2 => ?_)
  · replace K := (if_pos hc2).symm.trans K
    refine jx_next (pc := 15) (pc' := 16) rfl rfl ?_
    refine jx_getr2 (pc := 16) rfl jko_17 jr_7_0 ?_
    refine jx_next (pc := 19) (pc' := 20) rfl rfl ?_
    refine jx_next (pc := 20) (pc' := 21) rfl rfl ?_
    refine jx_next (pc := 21) (pc' := 22) rfl rfl ?_
    refine jx_next (pc := 22) (pc' := 23) rfl rfl ?_
    refine jx_getr2 (pc := 23) rfl jko_17 jr_7_0 ?_
    refine jx_next (pc := 26) (pc' := 27) rfl rfl ?_
    obtain ⟨hg3, K⟩ := jguard K
    refine jx_aald2 (pc := 27) rfl   hg3 ?_
    obtain ⟨hg4, K⟩ := jguard K
    refine jx_aast2 (pc := 28) rfl hg4 (hP.2.2 _ hg3.2) ?_
    refine jx_inc (pc := 29) (x := v2) (p2 := [some (.ref 17), some (.ref v1), some (.int (v2 + 1))]) rfl rfl (jlt rfl) rfl ?_
    refine jx_next (pc := 32) (pc' := 9) rfl rfl ?_
    obtain rfl := Option.some.inj K
    refine jx_le (pl' := [some (.ref 17), some (.ref v1), some (.int (v2 + 1))]) (jle_v (jle_v (jle_v jle_nil))) ?_
    exact HL (v2 + 1, jqs q ((v2 - 1).toNatClampNeg) (q v2.toNatClampNeg)) rfl (jOK_q hP (hP.2.2 _ hg3.2))
  · replace K := (if_neg hc2).symm.trans K
    obtain rfl := Option.some.inj K
    refine jx_le (pl' := [some (.ref 17), some (.ref v1), none]) (jle_v (jle_v (jle_n jle_nil))) ?_
    exact HE0 _ rfl hP
theorem kPa_dropOldest_l9_w {X : jX} {dd : Nat} {p d : Nat} {Q : Option Value → jS → Prop} {v1 : Nat} {h : jH} (hv1 : jcl 176 v1 = 6) (hd : 0 ≤ dd) {s : Int32 × (Nat → Nat)} {x : (Nat → Nat)} (K : jlim (fPa_dropOldest_l9 v1 h) s = some x) (HE : jOK p d x → jEx X dd jc_155 35 [some (.ref 17), some (.ref v1), none] [] (176, jRf p d x, h) Q) (hP : jOK p d s.2) :
    jEx X dd jc_155 9 [some (.ref 17), some (.ref v1), some (.int s.1)] [] (176, jRf p d s.2, h) Q := by
  refine jlim_ok (G := fun s : Int32 × (Nat → Nat) => jOK p d s.2 → jEx X dd jc_155 9 [some (.ref 17), some (.ref v1), some (.int s.1)] [] (176, jRf p d s.2, h) Q) (GX := fun x : (Nat → Nat) => jOK p d x → jEx X dd jc_155 35 [some (.ref 17), some (.ref v1), none] [] (176, jRf p d x, h) Q) (fun s z hz HL HE => ?_) K HE hP
  intro hP; exact kPa_dropOldest_l9_b hP hv1 hd hz HL HE
/-- AndGuest$Past.dropOldest()V -/
noncomputable def fPa_dropOldest (q : (Nat → Nat))  (h : jH) : Option ((Nat → Nat) × jH) :=
  (if jin 0 20 then
  (Option.bind (jlim (fPa_dropOldest_l9  (q ((0 : Int32).toNatClampNeg)) h) (1, q)) (fun (x5 : (Nat → Nat)) =>
  (if jin 19 20 then
  some (jqs x5 ((19 : Int32).toNatClampNeg) (q ((0 : Int32).toNatClampNeg)), jhI h 17 1 19)
  else none)))
  else none)
theorem kPa_dropOldest {X : jX} {dd : Nat} {p d : Nat} {q : Nat → Nat} {Q : Option Value → jS → Prop}  {h : jH} (hP : jOK p d q)  (hd : 0 ≤ dd) {z : (Nat → Nat) × jH} (K : fPa_dropOldest q  h = some z) (HQ : jOK p d z.1 → Q none (176, jRf p d z.1, z.2)) :
    jCa X dd 155 [.ref 17] (176, jRf p d q, h) Q := by
  unfold fPa_dropOldest at K
  refine jCa_of (es := jc_155) (pl := [some (.ref 17), none, none]) (M := jm_155) rfl rfl rfl rfl ?_
  refine jx_next (pc := 0) (pc' := 1) rfl rfl ?_
  refine jx_getr2 (pc := 1) rfl jko_17 jr_7_0 ?_
  refine jx_next (pc := 4) (pc' := 5) rfl rfl ?_
  obtain ⟨hg1, K⟩ := jguard K
  refine jx_aald2 (pc := 5) rfl   hg1 ?_
  refine jx_stan (pc := 6) (p2 := [some (.ref 17), some (.ref (q ((0 : Int32).toNatClampNeg))), none]) rfl (jlt rfl) rfl ?_
  refine jx_next (pc := 7) (pc' := 8) rfl rfl ?_
  refine jx_stin (pc := 8) (p2 := [some (.ref 17), some (.ref (q ((0 : Int32).toNatClampNeg))), some (.int 1)]) rfl (jlt rfl) rfl ?_
  refine jx_le (pl' := [some (.ref 17), some (.ref (q ((0 : Int32).toNatClampNeg))), some (.int 1)]) (jle_v (jle_v (jle_v jle_nil))) ?_
  obtain ⟨x5, hz_x5, K⟩ := Option.bind_eq_some_iff.mp K
  refine kPa_dropOldest_l9_w (hP.2.2 _ hg1.2) hd hz_x5 (fun hP_x5 => ?_) hP
  refine jx_next (pc := 35) (pc' := 36) rfl rfl ?_
  refine jx_getr2 (pc := 36) rfl jko_17 jr_7_0 ?_
  refine jx_next (pc := 39) (pc' := 41) rfl rfl ?_
  refine jx_next (pc := 41) (pc' := 42) rfl rfl ?_
  obtain ⟨hg6, K⟩ := jguard K
  refine jx_aast2 (pc := 42) rfl hg6 (hP.2.2 _ hg1.2) ?_
  refine jx_next (pc := 43) (pc' := 44) rfl rfl ?_
  refine jx_next (pc := 44) (pc' := 46) rfl rfl ?_
  refine jx_puti (pc := 46) rfl jko_17 ?_
  obtain rfl := Option.some.inj K
  exact jx_ret (pc := 49) rfl rfl (HQ (jOK_q hP_x5 (hP.2.2 _ hg1.2)))
noncomputable def fSd_copyFrom_l18_b (o : Nat) (v1 : Nat) (v2 : Int32) (h : jH) : Option ((Int32 × jH) ⊕ (jH)) :=
  (if v2 < 8 then
  (if jin v2 8 then
  (if jin v2 8 then
  (if jin v2 8 then
  (if jin v2 8 then
  some (.inl (v2 + 1, jhI (jhI h (o + 1) v2.toNatClampNeg (h.1 (v1 + 1) v2.toNatClampNeg)) (o + 2) v2.toNatClampNeg ((jhI h (o + 1) v2.toNatClampNeg (h.1 (v1 + 1) v2.toNatClampNeg)).1 (v1 + 2) v2.toNatClampNeg)))
  else none)
  else none)
  else none)
  else none)
  else
  some (.inr h))
noncomputable def fSd_copyFrom_l18 (o : Nat) (v1 : Nat) : (Int32 × jH) → Option ((Int32 × jH) ⊕ (jH)) :=
  fun (s : Int32 × jH) => fSd_copyFrom_l18_b o v1 s.1 s.2
theorem kSd_copyFrom_l18_b {X : jX} {dd : Nat} {p d : Nat} {q : Nat → Nat} {Q : Option Value → jS → Prop} {o : Nat} {v1 : Nat} {v2 : Int32} {h : jH} (hP : jOK p d q) (ho : jcl 176 o = 6) (hv1 : jcl 176 v1 = 6) (hd : 0 ≤ dd) {z : (Int32 × jH) ⊕ (jH)} (K : fSd_copyFrom_l18_b o v1 v2 h = some z) (HL : ∀ s : Int32 × jH, z = .inl s → jEx X dd jc_156 18 [some (.ref o), some (.ref v1), some (.int s.1)] [] (176, jRf p d q, s.2) Q) (HE0 : ∀ x : jH, z = .inr x → jEx X dd jc_156 54 [none, none, none] [] (176, jRf p d q, x) Q) :
    jEx X dd jc_156 18 [some (.ref o), some (.ref v1), some (.int v2)] [] (176, jRf p d q, h) Q := by
  unfold fSd_copyFrom_l18_b at K
  refine jx_next (pc := 18) (pc' := 19) rfl rfl ?_
  refine jx_next (pc := 19) (pc' := 21) rfl rfl ?_
  refine jx_icge (pc := 21) rfl (fun hc1 => ?_) (fun hc1 => ?_)
  · replace K := (if_pos hc1).symm.trans K
    refine jx_next (pc := 24) (pc' := 25) rfl rfl ?_
    refine jx_getr2 (pc := 25) rfl ho (jrm_6_2 ho) ?_
    refine jx_next (pc := 28) (pc' := 29) rfl rfl ?_
    refine jx_next (pc := 29) (pc' := 30) rfl rfl ?_
    refine jx_getr2 (pc := 30) rfl hv1 (jrm_6_2 hv1) ?_
    refine jx_next (pc := 33) (pc' := 34) rfl rfl ?_
    obtain ⟨hg2, K⟩ := jguard K
    refine jx_iald2 (pc := 34) rfl (jkm_6_2 hv1) (jnm_6_2 hv1) hg2 ?_
    obtain ⟨hg3, K⟩ := jguard K
    refine jx_iast2 (pc := 35) rfl (jkm_6_2 ho) (jnm_6_2 ho) hg3 ?_
    refine jx_next (pc := 36) (pc' := 37) rfl rfl ?_
    refine jx_getr2 (pc := 37) rfl ho (jrm_6_3 ho) ?_
    refine jx_next (pc := 40) (pc' := 41) rfl rfl ?_
    refine jx_next (pc := 41) (pc' := 42) rfl rfl ?_
    refine jx_getr2 (pc := 42) rfl hv1 (jrm_6_3 hv1) ?_
    refine jx_next (pc := 45) (pc' := 46) rfl rfl ?_
    obtain ⟨hg4, K⟩ := jguard K
    refine jx_iald2 (pc := 46) rfl (jkm_6_3 hv1) (jnm_6_3 hv1) hg4 ?_
    obtain ⟨hg5, K⟩ := jguard K
    refine jx_iast2 (pc := 47) rfl (jkm_6_3 ho) (jnm_6_3 ho) hg5 ?_
    refine jx_inc (pc := 48) (x := v2) (p2 := [some (.ref o), some (.ref v1), some (.int (v2 + 1))]) rfl rfl (jlt rfl) rfl ?_
    refine jx_next (pc := 51) (pc' := 18) rfl rfl ?_
    obtain rfl := Option.some.inj K
    refine jx_le (pl' := [some (.ref o), some (.ref v1), some (.int (v2 + 1))]) (jle_v (jle_v (jle_v jle_nil))) ?_
    exact HL (v2 + 1, jhI (jhI h (o + 1) v2.toNatClampNeg (h.1 (v1 + 1) v2.toNatClampNeg)) (o + 2) v2.toNatClampNeg ((jhI h (o + 1) v2.toNatClampNeg (h.1 (v1 + 1) v2.toNatClampNeg)).1 (v1 + 2) v2.toNatClampNeg)) rfl
  · replace K := (if_neg hc1).symm.trans K
    obtain rfl := Option.some.inj K
    refine jx_le (pl' := [none, none, none]) (jle_n (jle_n (jle_n jle_nil))) ?_
    exact HE0 _ rfl
theorem kSd_copyFrom_l18_w {X : jX} {dd : Nat} {p d : Nat} {q : Nat → Nat} {Q : Option Value → jS → Prop} {o : Nat} {v1 : Nat} (hP : jOK p d q) (ho : jcl 176 o = 6) (hv1 : jcl 176 v1 = 6) (hd : 0 ≤ dd) {s : Int32 × jH} {x : jH} (K : jlim (fSd_copyFrom_l18 o v1) s = some x) (HE : jEx X dd jc_156 54 [none, none, none] [] (176, jRf p d q, x) Q) :
    jEx X dd jc_156 18 [some (.ref o), some (.ref v1), some (.int s.1)] [] (176, jRf p d q, s.2) Q := by
  refine jlim_ok (G := fun s : Int32 × jH => jEx X dd jc_156 18 [some (.ref o), some (.ref v1), some (.int s.1)] [] (176, jRf p d q, s.2) Q) (GX := fun x : jH => jEx X dd jc_156 54 [none, none, none] [] (176, jRf p d q, x) Q) (fun s z hz HL HE => ?_) K HE
  exact kSd_copyFrom_l18_b hP ho hv1 hd hz HL HE
/-- AndGuest$Standing.copyFrom(LAndGuest$Standing;)V -/
noncomputable def fSd_copyFrom (o : Nat) (v1 : Nat) (h : jH) : Option jH :=
  (Option.bind (jlim (fSd_copyFrom_l18  o v1) (0, jhI (jhI h o 0 (h.1 v1 0)) o 1 ((jhI h o 0 (h.1 v1 0)).1 v1 1))) (fun (x6 : jH) =>
  some x6))
theorem kSd_copyFrom {X : jX} {dd : Nat} {p d : Nat} {q : Nat → Nat} {Q : Option Value → jS → Prop} {o : Nat} {v1 : Nat} {h : jH} (hP : jOK p d q) (ho : jcl 176 o = 6) (hv1 : jcl 176 v1 = 6) (hd : 0 ≤ dd) {z : jH} (K : fSd_copyFrom o v1 h = some z) (HQ : Q none (176, jRf p d q, z)) :
    jCa X dd 156 [.ref o, .ref v1] (176, jRf p d q, h) Q := by
  unfold fSd_copyFrom at K
  refine jCa_of (es := jc_156) (pl := [some (.ref o), some (.ref v1), none]) (M := jm_156) rfl rfl rfl rfl ?_
  refine jx_next (pc := 0) (pc' := 1) rfl rfl ?_
  refine jx_next (pc := 1) (pc' := 2) rfl rfl ?_
  refine jx_geti (pc := 2) rfl hv1 ?_
  refine jx_puti (pc := 5) rfl ho ?_
  refine jx_next (pc := 8) (pc' := 9) rfl rfl ?_
  refine jx_next (pc := 9) (pc' := 10) rfl rfl ?_
  refine jx_geti (pc := 10) rfl hv1 ?_
  refine jx_puti (pc := 13) rfl ho ?_
  refine jx_next (pc := 16) (pc' := 17) rfl rfl ?_
  refine jx_stin (pc := 17) (p2 := [some (.ref o), some (.ref v1), some (.int 0)]) rfl (jlt rfl) rfl ?_
  refine jx_le (pl' := [some (.ref o), some (.ref v1), some (.int 0)]) (jle_v (jle_v (jle_v jle_nil))) ?_
  obtain ⟨x6, hz_x6, K⟩ := Option.bind_eq_some_iff.mp K
  refine kSd_copyFrom_l18_w hP ho hv1 hd hz_x6 ?_
  obtain rfl := Option.some.inj K
  exact jx_ret (pc := 54) rfl rfl HQ
noncomputable def fPa_keep_j13 (q : (Nat → Nat)) (v1 : Nat) (h : jH) : Option ((Nat → Nat) × jH) :=
  (if jin (h.1 17 1) 20 then
  (Option.bind (fSd_copyFrom (q ((h.1 17 1).toNatClampNeg)) v1 h) (fun (z3 : jH) =>
  some (q, jhI z3 17 1 ((z3.1 17 1) + 1))))
  else none)
theorem kPa_keep_j13 {X : jX} {dd : Nat} {p d : Nat} {q : Nat → Nat} {Q : Option Value → jS → Prop} {v1 : Nat} {h : jH} (hP : jOK p d q) (hv1 : jcl 176 v1 = 6) (hd : 1 ≤ (dd + 1)) {z : (Nat → Nat) × jH} (K : fPa_keep_j13 q v1 h = some z) (HQ : jOK p d z.1 → Q none (176, jRf p d z.1, z.2)) :
    jEx X (dd + 1) jc_154 13 [some (.ref 17), some (.ref v1)] [] (176, jRf p d q, h) Q := by
  unfold fPa_keep_j13 at K
  refine jx_next (pc := 13) (pc' := 14) rfl rfl ?_
  refine jx_getr2 (pc := 14) rfl jko_17 jr_7_0 ?_
  refine jx_next (pc := 17) (pc' := 18) rfl rfl ?_
  refine jx_geti (pc := 18) rfl jko_17 ?_
  obtain ⟨hg2, K⟩ := jguard K
  refine jx_aald2 (pc := 21) rfl   hg2 ?_
  refine jx_next (pc := 22) (pc' := 23) rfl rfl ?_
  refine jx_callv (pc := 23) (o := (q ((h.1 17 1).toNatClampNeg))) (rest := []) rfl ⟨by decide, by decide⟩ rfl (hP.2.2 _ hg2.2) (Nat.le_of_ble_eq_true rfl) ?_
  obtain ⟨z3, hz_z3, K⟩ := Option.bind_eq_some_iff.mp K
  refine kSd_copyFrom hP (hP.2.2 _ hg2.2) hv1 (by omega) hz_z3 ?_
  refine jx_next (pc := 26) (pc' := 27) rfl rfl ?_
  refine jx_next (pc := 27) (pc' := 28) rfl rfl ?_
  refine jx_geti (pc := 28) rfl jko_17 ?_
  refine jx_next (pc := 31) (pc' := 32) rfl rfl ?_
  refine jx_next (pc := 32) (pc' := 33) rfl rfl ?_
  refine jx_puti (pc := 33) rfl jko_17 ?_
  obtain rfl := Option.some.inj K
  exact jx_ret (pc := 36) rfl rfl (HQ hP)
/-- AndGuest$Past.keep(LAndGuest$Standing;)V -/
noncomputable def fPa_keep (q : (Nat → Nat)) (v1 : Nat) (h : jH) : Option ((Nat → Nat) × jH) :=
  (if (h.1 17 1) < 20 then
  fPa_keep_j13  q v1 h
  else
  (Option.bind (fPa_dropOldest q h) (fun (z4 : (Nat → Nat) × jH) =>
  fPa_keep_j13  z4.1 v1 z4.2)))
theorem kPa_keep {X : jX} {dd : Nat} {p d : Nat} {q : Nat → Nat} {Q : Option Value → jS → Prop} {v1 : Nat} {h : jH} (hP : jOK p d q) (hv1 : jcl 176 v1 = 6) (hd : 1 ≤ dd) {z : (Nat → Nat) × jH} (K : fPa_keep q v1 h = some z) (HQ : jOK p d z.1 → Q none (176, jRf p d z.1, z.2)) :
    jCa X dd 154 [.ref 17, .ref v1] (176, jRf p d q, h) Q := by
  obtain ⟨dd, rfl⟩ : ∃ d9, dd = d9 + 1 := ⟨dd - 1, by omega⟩
  unfold fPa_keep at K
  refine jCa_of (es := jc_154) (pl := [some (.ref 17), some (.ref v1)]) (M := jm_154) rfl rfl rfl rfl ?_
  refine jx_next (pc := 0) (pc' := 1) rfl rfl ?_
  refine jx_geti (pc := 1) rfl jko_17 ?_
  refine jx_next (pc := 4) (pc' := 6) rfl rfl ?_
  refine jx_iclt (pc := 6) rfl (fun hc1 => ?_) (fun hc1 => ?_)
  · replace K := (if_pos hc1).symm.trans K
    refine jx_le (pl' := [some (.ref 17), some (.ref v1)]) (jle_v (jle_v jle_nil)) ?_
    exact kPa_keep_j13 hP hv1 hd K HQ
  · replace K := (if_neg hc1).symm.trans K
    refine jx_next (pc := 9) (pc' := 10) rfl rfl ?_
    refine jx_callv (pc := 10) (o := 17) (rest := []) rfl ⟨by decide, by decide⟩ rfl jko_17 (Nat.le_of_ble_eq_true rfl) ?_
    obtain ⟨z4, hz_z4, K⟩ := Option.bind_eq_some_iff.mp K
    refine kPa_dropOldest hP (by omega) hz_z4 (fun hP_z4 => ?_)
    refine jx_le (pl' := [some (.ref 17), some (.ref v1)]) (jle_v (jle_v jle_nil)) ?_
    exact kPa_keep_j13 hP_z4 hv1 hd K HQ
noncomputable def fSd_sendTo_l7_j36 (o : Nat) (v1 : Int32) (v2 : Int32) (v3 : Int32) (h : jH) : Option ((Int32 × jH) ⊕ (jH)) :=
  some (.inl (v3 + 1, h))
theorem kSd_sendTo_l7_j36 {X : jX} {dd : Nat} {p d : Nat} {q : Nat → Nat} {Q : Option Value → jS → Prop} {o : Nat} {v1 : Int32} {v2 : Int32} {v3 : Int32} {h : jH} (hP : jOK p d q) (ho : jcl 176 o = 6) (hd : 1 ≤ (dd + 1)) {z : (Int32 × jH) ⊕ (jH)} (K : fSd_sendTo_l7_j36 o v1 v2 v3 h = some z) (HL : ∀ s : Int32 × jH, z = .inl s → jEx X (dd + 1) jc_157 7 [some (.ref o), some (.int v1), some (.int v2), some (.int s.1)] [] (176, jRf p d q, s.2) Q) (HE0 : ∀ x : jH, z = .inr x → jEx X (dd + 1) jc_157 42 [some (.ref o), none, none, none] [] (176, jRf p d q, x) Q) :
    jEx X (dd + 1) jc_157 36 [some (.ref o), some (.int v1), some (.int v2), some (.int v3)] [] (176, jRf p d q, h) Q := by
  unfold fSd_sendTo_l7_j36 at K
  refine jx_inc (pc := 36) (x := v3) (p2 := [some (.ref o), some (.int v1), some (.int v2), some (.int (v3 + 1))]) rfl rfl (jlt rfl) rfl ?_
  refine jx_next (pc := 39) (pc' := 7) rfl rfl ?_
  obtain rfl := Option.some.inj K
  refine jx_le (pl' := [some (.ref o), some (.int v1), some (.int v2), some (.int (v3 + 1))]) (jle_v (jle_v (jle_v (jle_v jle_nil)))) ?_
  exact HL (v3 + 1, h) rfl
noncomputable def fSd_sendTo_l7_b (o : Nat) (v1 : Int32) (v2 : Int32) (v3 : Int32) (h : jH) : Option ((Int32 × jH) ⊕ (jH)) :=
  (if v3 < 8 then
  (if ((v1 >>> (v3 &&& 31)) &&& 1) = 1 then
  (if jin v3 8 then
  (if jin v3 8 then
  fSd_sendTo_l7_j36  o v1 v2 v3 (jhI (jhI h (o + 1) v3.toNatClampNeg 1) (o + 2) v3.toNatClampNeg v2)
  else none)
  else none)
  else
  fSd_sendTo_l7_j36  o v1 v2 v3 h)
  else
  some (.inr h))
noncomputable def fSd_sendTo_l7 (o : Nat) (v1 : Int32) (v2 : Int32) : (Int32 × jH) → Option ((Int32 × jH) ⊕ (jH)) :=
  fun (s : Int32 × jH) => fSd_sendTo_l7_b o v1 v2 s.1 s.2
theorem kSd_sendTo_l7_b {X : jX} {dd : Nat} {p d : Nat} {q : Nat → Nat} {Q : Option Value → jS → Prop} {o : Nat} {v1 : Int32} {v2 : Int32} {v3 : Int32} {h : jH} (hP : jOK p d q) (ho : jcl 176 o = 6) (hd : 1 ≤ (dd + 1)) {z : (Int32 × jH) ⊕ (jH)} (K : fSd_sendTo_l7_b o v1 v2 v3 h = some z) (HL : ∀ s : Int32 × jH, z = .inl s → jEx X (dd + 1) jc_157 7 [some (.ref o), some (.int v1), some (.int v2), some (.int s.1)] [] (176, jRf p d q, s.2) Q) (HE0 : ∀ x : jH, z = .inr x → jEx X (dd + 1) jc_157 42 [some (.ref o), none, none, none] [] (176, jRf p d q, x) Q) :
    jEx X (dd + 1) jc_157 7 [some (.ref o), some (.int v1), some (.int v2), some (.int v3)] [] (176, jRf p d q, h) Q := by
  unfold fSd_sendTo_l7_b at K
  refine jx_next (pc := 7) (pc' := 8) rfl rfl ?_
  refine jx_next (pc := 8) (pc' := 10) rfl rfl ?_
  refine jx_icge (pc := 10) rfl (fun hc2 => ?_) (fun hc2 => ?_)
  · replace K := (if_pos hc2).symm.trans K
    refine jx_next (pc := 13) (pc' := 14) rfl rfl ?_
    refine jx_next (pc := 14) (pc' := 15) rfl rfl ?_
    refine jx_next (pc := 15) (pc' := 16) rfl rfl ?_
    refine jx_next (pc := 16) (pc' := 17) rfl rfl ?_
    refine jx_next (pc := 17) (pc' := 18) rfl rfl ?_
    refine jx_next (pc := 18) (pc' := 19) rfl rfl ?_
    refine jx_icne (pc := 19) rfl (fun hc3 => ?_) (fun hc3 => ?_)
    · replace K := (if_pos hc3).symm.trans K
      refine jx_next (pc := 22) (pc' := 23) rfl rfl ?_
      refine jx_getr2 (pc := 23) rfl ho (jrm_6_2 ho) ?_
      refine jx_next (pc := 26) (pc' := 27) rfl rfl ?_
      refine jx_next (pc := 27) (pc' := 28) rfl rfl ?_
      obtain ⟨hg4, K⟩ := jguard K
      refine jx_iast2 (pc := 28) rfl (jkm_6_2 ho) (jnm_6_2 ho) hg4 ?_
      refine jx_next (pc := 29) (pc' := 30) rfl rfl ?_
      refine jx_getr2 (pc := 30) rfl ho (jrm_6_3 ho) ?_
      refine jx_next (pc := 33) (pc' := 34) rfl rfl ?_
      refine jx_next (pc := 34) (pc' := 35) rfl rfl ?_
      obtain ⟨hg5, K⟩ := jguard K
      refine jx_iast2 (pc := 35) rfl (jkm_6_3 ho) (jnm_6_3 ho) hg5 ?_
      refine jx_le (pl' := [some (.ref o), some (.int v1), some (.int v2), some (.int v3)]) (jle_v (jle_v (jle_v (jle_v jle_nil)))) ?_
      exact kSd_sendTo_l7_j36 hP ho hd K HL HE0
    · replace K := (if_neg hc3).symm.trans K
      refine jx_le (pl' := [some (.ref o), some (.int v1), some (.int v2), some (.int v3)]) (jle_v (jle_v (jle_v (jle_v jle_nil)))) ?_
      exact kSd_sendTo_l7_j36 hP ho hd K HL HE0
  · replace K := (if_neg hc2).symm.trans K
    obtain rfl := Option.some.inj K
    refine jx_le (pl' := [some (.ref o), none, none, none]) (jle_v (jle_n (jle_n (jle_n jle_nil)))) ?_
    exact HE0 _ rfl
theorem kSd_sendTo_l7_w {X : jX} {dd : Nat} {p d : Nat} {q : Nat → Nat} {Q : Option Value → jS → Prop} {o : Nat} {v1 : Int32} {v2 : Int32} (hP : jOK p d q) (ho : jcl 176 o = 6) (hd : 1 ≤ (dd + 1)) {s : Int32 × jH} {x : jH} (K : jlim (fSd_sendTo_l7 o v1 v2) s = some x) (HE : jEx X (dd + 1) jc_157 42 [some (.ref o), none, none, none] [] (176, jRf p d q, x) Q) :
    jEx X (dd + 1) jc_157 7 [some (.ref o), some (.int v1), some (.int v2), some (.int s.1)] [] (176, jRf p d q, s.2) Q := by
  refine jlim_ok (G := fun s : Int32 × jH => jEx X (dd + 1) jc_157 7 [some (.ref o), some (.int v1), some (.int v2), some (.int s.1)] [] (176, jRf p d q, s.2) Q) (GX := fun x : jH => jEx X (dd + 1) jc_157 42 [some (.ref o), none, none, none] [] (176, jRf p d q, x) Q) (fun s z hz HL HE => ?_) K HE
  exact kSd_sendTo_l7_b hP ho hd hz HL HE
/-- AndGuest$Standing.sendTo(I)V -/
noncomputable def fSd_sendTo (o : Nat) (v1 : Int32) (h : jH) : Option jH :=
  (Option.bind (jlim (fSd_sendTo_l7  o v1 (fSd_behindNow o h)) (0, h)) (fun (x6 : jH) =>
  (if (x6.1 o 1) = (-1) then
  some (jhI x6 o 1 (x6.1 o 0))
  else
  some x6)))
theorem kSd_sendTo {X : jX} {dd : Nat} {p d : Nat} {q : Nat → Nat} {Q : Option Value → jS → Prop} {o : Nat} {v1 : Int32} {h : jH} (hP : jOK p d q) (ho : jcl 176 o = 6) (hd : 1 ≤ dd) {z : jH} (K : fSd_sendTo o v1 h = some z) (HQ : Q none (176, jRf p d q, z)) :
    jCa X dd 157 [.ref o, .int v1] (176, jRf p d q, h) Q := by
  obtain ⟨dd, rfl⟩ : ∃ d9, dd = d9 + 1 := ⟨dd - 1, by omega⟩
  unfold fSd_sendTo at K
  refine jCa_of (es := jc_157) (pl := [some (.ref o), some (.int v1), none, none]) (M := jm_157) rfl rfl rfl rfl ?_
  refine jx_next (pc := 0) (pc' := 1) rfl rfl ?_
  refine jx_callv (pc := 1) (o := o) (rest := []) rfl ⟨by decide, by decide⟩ rfl ho (Nat.le_of_ble_eq_true rfl) ?_
  refine kSd_behindNow hP ho (by omega) rfl ?_
  refine jx_stin (pc := 4) (p2 := [some (.ref o), some (.int v1), some (.int (fSd_behindNow o h)), none]) rfl (jlt rfl) rfl ?_
  refine jx_next (pc := 5) (pc' := 6) rfl rfl ?_
  refine jx_stin (pc := 6) (p2 := [some (.ref o), some (.int v1), some (.int (fSd_behindNow o h)), some (.int 0)]) rfl (jlt rfl) rfl ?_
  refine jx_le (pl' := [some (.ref o), some (.int v1), some (.int (fSd_behindNow o h)), some (.int 0)]) (jle_v (jle_v (jle_v (jle_v jle_nil)))) ?_
  obtain ⟨x6, hz_x6, K⟩ := Option.bind_eq_some_iff.mp K
  refine kSd_sendTo_l7_w hP ho hd hz_x6 ?_
  refine jx_next (pc := 42) (pc' := 43) rfl rfl ?_
  refine jx_geti (pc := 43) rfl ho ?_
  refine jx_next (pc := 46) (pc' := 47) rfl rfl ?_
  refine jx_icne (pc := 47) rfl (fun hc7 => ?_) (fun hc7 => ?_)
  · replace K := (if_pos hc7).symm.trans K
    refine jx_next (pc := 50) (pc' := 51) rfl rfl ?_
    refine jx_next (pc := 51) (pc' := 52) rfl rfl ?_
    refine jx_geti (pc := 52) rfl ho ?_
    refine jx_puti (pc := 55) rfl ho ?_
    obtain rfl := Option.some.inj K
    exact jx_ret (pc := 58) rfl rfl HQ
  · replace K := (if_neg hc7).symm.trans K
    obtain rfl := Option.some.inj K
    exact jx_ret (pc := 58) rfl rfl HQ
noncomputable def fA_send_j15 (p : Nat) (q : (Nat → Nat))  (h : jH) : Option (Int32 × (Nat → Nat) × jH) :=
  (Option.bind (fA_refuse 2 h) (fun (z2 : jH) =>
  some ((-1), q, z2)))
theorem kA_send_j15 {X : jX} {dd : Nat} {p d : Nat} {q : Nat → Nat} {Q : Option Value → jS → Prop}  {h : jH} (hP : jOK p d q)  (hd : 3 ≤ (dd + 1)) {z : Int32 × (Nat → Nat) × jH} (K : fA_send_j15 p q  h = some z) (HQ : jOK p d z.2.1 → Q (some (.int z.1)) (176, jRf p d z.2.1, z.2.2)) :
    jEx X (dd + 1) jc_153 15 [some (.ref 1), none] [] (176, jRf p d q, h) Q := by
  unfold fA_send_j15 at K
  refine jx_next (pc := 15) (pc' := 16) rfl rfl ?_
  refine jx_next (pc := 16) (pc' := 17) rfl rfl ?_
  refine jx_callv (pc := 17) (o := 1) (rest := []) rfl ⟨by decide, by decide⟩ rfl jko_1 (Nat.le_of_ble_eq_true rfl) ?_
  obtain ⟨z2, hz_z2, K⟩ := Option.bind_eq_some_iff.mp K
  refine kA_refuse hP (by omega) hz_z2 ?_
  refine jx_next (pc := 20) (pc' := 21) rfl rfl ?_
  obtain rfl := Option.some.inj K
  exact jx_iret (pc := 21) rfl (HQ hP)
/-- AndGuest.send(I)I -/
noncomputable def fA_send (p : Nat) (q : (Nat → Nat)) (v1 : Int32) (h : jH) : Option (Int32 × (Nat → Nat) × jH) :=
  (if v1 = 0 then
  fA_send_j15  p q h
  else
  (Option.bind (fPy_canAsk p v1 h) (fun (z3 : Int32) =>
  (if z3 = 0 then
  fA_send_j15  p q h
  else
  (Option.bind (fPa_keep q 11 h) (fun (z5 : (Nat → Nat) × jH) =>
  (Option.bind (fSd_sendTo 11 v1 z5.2) (fun (z6 : jH) =>
  some ((fIn_bitCount v1), z5.1, z6)))))))))
theorem kA_send {X : jX} {dd : Nat} {p d : Nat} {q : Nat → Nat} {Q : Option Value → jS → Prop} {v1 : Int32} {h : jH} (hP : jOK p d q)  (hd : 3 ≤ dd) {z : Int32 × (Nat → Nat) × jH} (K : fA_send p q v1 h = some z) (HQ : jOK p d z.2.1 → Q (some (.int z.1)) (176, jRf p d z.2.1, z.2.2)) :
    jCa X dd 153 [.ref 1, .int v1] (176, jRf p d q, h) Q := by
  obtain ⟨dd, rfl⟩ : ∃ d9, dd = d9 + 1 := ⟨dd - 1, by omega⟩
  unfold fA_send at K
  refine jCa_of (es := jc_153) (pl := [some (.ref 1), some (.int v1)]) (M := jm_153) rfl rfl rfl rfl ?_
  refine jx_next (pc := 0) (pc' := 1) rfl rfl ?_
  refine jx_ifeq (pc := 1) rfl (fun hc1 => ?_) (fun hc1 => ?_)
  · replace K := (if_pos hc1).symm.trans K
    refine jx_le (pl' := [some (.ref 1), none]) (jle_v (jle_n jle_nil)) ?_
    exact kA_send_j15 hP  hd K HQ
  · replace K := (if_neg hc1).symm.trans K
    refine jx_next (pc := 4) (pc' := 5) rfl rfl ?_
    refine jx_getr2 (pc := 5) rfl jko_1 jr_1_8 ?_
    refine jx_next (pc := 8) (pc' := 9) rfl rfl ?_
    refine jx_callv (pc := 9) (o := 79) (rest := []) rfl ⟨by decide, by decide⟩ rfl jko_79 (Nat.le_of_ble_eq_true rfl) ?_
    obtain ⟨z3, hz_z3, K⟩ := Option.bind_eq_some_iff.mp K
    refine kPy_canAsk hP (by omega) hz_z3 ?_
    refine jx_ifne (pc := 12) rfl (fun hc4 => ?_) (fun hc4 => ?_)
    · replace K := (if_pos hc4).symm.trans K
      refine jx_le (pl' := [some (.ref 1), none]) (jle_v (jle_n jle_nil)) ?_
      exact kA_send_j15 hP  hd K HQ
    · replace K := (if_neg hc4).symm.trans K
      refine jx_next (pc := 22) (pc' := 23) rfl rfl ?_
      refine jx_getr2 (pc := 23) rfl jko_1 jr_1_7 ?_
      refine jx_next (pc := 26) (pc' := 27) rfl rfl ?_
      refine jx_getr2 (pc := 27) rfl jko_1 jr_1_5 ?_
      refine jx_callv (pc := 30) (o := 17) (rest := []) rfl ⟨by decide, by decide⟩ rfl jko_17 (Nat.le_of_ble_eq_true rfl) ?_
      obtain ⟨z5, hz_z5, K⟩ := Option.bind_eq_some_iff.mp K
      refine kPa_keep hP jko_11 (by omega) hz_z5 (fun hP_z5 => ?_)
      refine jx_next (pc := 33) (pc' := 34) rfl rfl ?_
      refine jx_getr2 (pc := 34) rfl jko_1 jr_1_5 ?_
      refine jx_next (pc := 37) (pc' := 38) rfl rfl ?_
      refine jx_callv (pc := 38) (o := 11) (rest := []) rfl ⟨by decide, by decide⟩ rfl jko_11 (Nat.le_of_ble_eq_true rfl) ?_
      obtain ⟨z6, hz_z6, K⟩ := Option.bind_eq_some_iff.mp K
      refine kSd_sendTo hP_z5 jko_11 (by omega) hz_z6 ?_
      refine jx_next (pc := 41) (pc' := 42) rfl rfl ?_
      refine jx_calls (pc := 42) rfl (Nat.le_of_ble_eq_true rfl) (Nat.le_of_ble_eq_true rfl) ?_
      refine kIn_bitCount  (by omega) rfl ?_
      obtain rfl := Option.some.inj K
      exact jx_iret (pc := 45) rfl (HQ hP_z5)
noncomputable def fA_answer_j47 (p : Nat) (q : (Nat → Nat)) (v1 : Int32) (v2 : Int32) (s0 : Int32) (h : jH) : Option (Int32 × (Nat → Nat) × jH) :=
  (if s0 = 0 then
  (Option.bind (fA_refuse 2 h) (fun (z4 : jH) =>
  some (0, q, z4)))
  else
  (Option.bind (fPa_keep q 11 h) (fun (z5 : (Nat → Nat) × jH) =>
  (if jin v1 8 then
  some (1, z5.1, jhI z5.2 (11 + 1) v1.toNatClampNeg v2)
  else none))))
theorem kA_answer_j47 {X : jX} {dd : Nat} {p d : Nat} {q : Nat → Nat} {Q : Option Value → jS → Prop} {v1 : Int32} {v2 : Int32} {s0 : Int32} {h : jH} (hP : jOK p d q)  (hd : 2 ≤ (dd + 1)) {z : Int32 × (Nat → Nat) × jH} (K : fA_answer_j47 p q v1 v2 s0 h = some z) (HQ : jOK p d z.2.1 → Q (some (.int z.1)) (176, jRf p d z.2.1, z.2.2)) :
    jEx X (dd + 1) jc_158 47 [some (.ref 1), some (.int v1), some (.int v2), none] [.int s0] (176, jRf p d q, h) Q := by
  unfold fA_answer_j47 at K
  refine jx_stin (pc := 47) (p2 := [some (.ref 1), some (.int v1), some (.int v2), some (.int s0)]) rfl (jlt rfl) rfl ?_
  refine jx_next (pc := 48) (pc' := 49) rfl rfl ?_
  refine jx_ifne (pc := 49) rfl (fun hc3 => ?_) (fun hc3 => ?_)
  · replace K := (if_pos hc3).symm.trans K
    refine jx_next (pc := 52) (pc' := 53) rfl rfl ?_
    refine jx_next (pc := 53) (pc' := 54) rfl rfl ?_
    refine jx_callv (pc := 54) (o := 1) (rest := []) rfl ⟨by decide, by decide⟩ rfl jko_1 (Nat.le_of_ble_eq_true rfl) ?_
    obtain ⟨z4, hz_z4, K⟩ := Option.bind_eq_some_iff.mp K
    refine kA_refuse hP (by omega) hz_z4 ?_
    refine jx_next (pc := 57) (pc' := 58) rfl rfl ?_
    obtain rfl := Option.some.inj K
    exact jx_zret (pc := 58) rfl (Or.inl rfl) (HQ hP)
  · replace K := (if_neg hc3).symm.trans K
    refine jx_next (pc := 59) (pc' := 60) rfl rfl ?_
    refine jx_getr2 (pc := 60) rfl jko_1 jr_1_7 ?_
    refine jx_next (pc := 63) (pc' := 64) rfl rfl ?_
    refine jx_getr2 (pc := 64) rfl jko_1 jr_1_5 ?_
    refine jx_callv (pc := 67) (o := 17) (rest := []) rfl ⟨by decide, by decide⟩ rfl jko_17 (Nat.le_of_ble_eq_true rfl) ?_
    obtain ⟨z5, hz_z5, K⟩ := Option.bind_eq_some_iff.mp K
    refine kPa_keep hP jko_11 (by omega) hz_z5 (fun hP_z5 => ?_)
    refine jx_next (pc := 70) (pc' := 71) rfl rfl ?_
    refine jx_getr2 (pc := 71) rfl jko_1 jr_1_5 ?_
    refine jx_getr2 (pc := 74) rfl jko_11 (jrm_6_2 jko_11) ?_
    refine jx_next (pc := 77) (pc' := 78) rfl rfl ?_
    refine jx_next (pc := 78) (pc' := 79) rfl rfl ?_
    obtain ⟨hg6, K⟩ := jguard K
    refine jx_iast2 (pc := 79) rfl (jkm_6_2 jko_11) (jnm_6_2 jko_11) hg6 ?_
    refine jx_next (pc := 80) (pc' := 81) rfl rfl ?_
    obtain rfl := Option.some.inj K
    exact jx_zret (pc := 81) rfl (Or.inr rfl) (HQ hP_z5)
noncomputable def fA_answer_j46 (p : Nat) (q : (Nat → Nat)) (v1 : Int32) (v2 : Int32) (h : jH) : Option (Int32 × (Nat → Nat) × jH) :=
  fA_answer_j47  p q v1 v2 0 h
theorem kA_answer_j46 {X : jX} {dd : Nat} {p d : Nat} {q : Nat → Nat} {Q : Option Value → jS → Prop} {v1 : Int32} {v2 : Int32} {h : jH} (hP : jOK p d q)  (hd : 2 ≤ (dd + 1)) {z : Int32 × (Nat → Nat) × jH} (K : fA_answer_j46 p q v1 v2 h = some z) (HQ : jOK p d z.2.1 → Q (some (.int z.1)) (176, jRf p d z.2.1, z.2.2)) :
    jEx X (dd + 1) jc_158 46 [some (.ref 1), some (.int v1), some (.int v2), none] [] (176, jRf p d q, h) Q := by
  unfold fA_answer_j46 at K
  refine jx_next (pc := 46) (pc' := 47) rfl rfl ?_
  refine jx_le (pl' := [some (.ref 1), some (.int v1), some (.int v2), none]) (jle_v (jle_v (jle_v (jle_n jle_nil)))) ?_
  exact kA_answer_j47 hP  hd K HQ
/-- AndGuest.answer(II)Z -/
noncomputable def fA_answer (p : Nat) (q : (Nat → Nat)) (v1 : Int32) (v2 : Int32) (h : jH) : Option (Int32 × (Nat → Nat) × jH) :=
  (if (fA_isGuest p v1 h) = 0 then
  fA_answer_j46  p q v1 v2 h
  else
  (Option.bind (fSd_isAsked 11 v1 h) (fun (z7 : Int32) =>
  (if z7 = 0 then
  fA_answer_j46  p q v1 v2 h
  else
  (if v2 < 2 then
  fA_answer_j46  p q v1 v2 h
  else
  (if 4 < v2 then
  fA_answer_j46  p q v1 v2 h
  else
  (if jin v1 8 then
  (if (h.1 (11 + 1) v1.toNatClampNeg) = v2 then
  fA_answer_j46  p q v1 v2 h
  else
  fA_answer_j47  p q v1 v2 1 h)
  else none)))))))
theorem kA_answer {X : jX} {dd : Nat} {p d : Nat} {q : Nat → Nat} {Q : Option Value → jS → Prop} {v1 : Int32} {v2 : Int32} {h : jH} (hP : jOK p d q)  (hd : 2 ≤ dd) {z : Int32 × (Nat → Nat) × jH} (K : fA_answer p q v1 v2 h = some z) (HQ : jOK p d z.2.1 → Q (some (.int z.1)) (176, jRf p d z.2.1, z.2.2)) :
    jCa X dd 158 [.ref 1, .int v1, .int v2] (176, jRf p d q, h) Q := by
  obtain ⟨dd, rfl⟩ : ∃ d9, dd = d9 + 1 := ⟨dd - 1, by omega⟩
  unfold fA_answer at K
  refine jCa_of (es := jc_158) (pl := [some (.ref 1), some (.int v1), some (.int v2), none]) (M := jm_158) rfl rfl rfl rfl ?_
  refine jx_next (pc := 0) (pc' := 1) rfl rfl ?_
  refine jx_next (pc := 1) (pc' := 2) rfl rfl ?_
  refine jx_callv (pc := 2) (o := 1) (rest := []) rfl ⟨by decide, by decide⟩ rfl jko_1 (Nat.le_of_ble_eq_true rfl) ?_
  refine kA_isGuest hP (by omega) rfl ?_
  refine jx_ifeq (pc := 5) rfl (fun hc2 => ?_) (fun hc2 => ?_)
  · replace K := (if_pos hc2).symm.trans K
    refine jx_le (pl' := [some (.ref 1), some (.int v1), some (.int v2), none]) (jle_v (jle_v (jle_v (jle_n jle_nil)))) ?_
    exact kA_answer_j46 hP  hd K HQ
  · replace K := (if_neg hc2).symm.trans K
    refine jx_next (pc := 8) (pc' := 9) rfl rfl ?_
    refine jx_getr2 (pc := 9) rfl jko_1 jr_1_5 ?_
    refine jx_next (pc := 12) (pc' := 13) rfl rfl ?_
    refine jx_callv (pc := 13) (o := 11) (rest := []) rfl ⟨by decide, by decide⟩ rfl jko_11 (Nat.le_of_ble_eq_true rfl) ?_
    obtain ⟨z7, hz_z7, K⟩ := Option.bind_eq_some_iff.mp K
    refine kSd_isAsked hP jko_11 (by omega) hz_z7 ?_
    refine jx_ifeq (pc := 16) rfl (fun hc8 => ?_) (fun hc8 => ?_)
    · replace K := (if_pos hc8).symm.trans K
      refine jx_le (pl' := [some (.ref 1), some (.int v1), some (.int v2), none]) (jle_v (jle_v (jle_v (jle_n jle_nil)))) ?_
      exact kA_answer_j46 hP  hd K HQ
    · replace K := (if_neg hc8).symm.trans K
      refine jx_next (pc := 19) (pc' := 20) rfl rfl ?_
      refine jx_next (pc := 20) (pc' := 21) rfl rfl ?_
      refine jx_iclt (pc := 21) rfl (fun hc9 => ?_) (fun hc9 => ?_)
      · replace K := (if_pos hc9).symm.trans K
        refine jx_le (pl' := [some (.ref 1), some (.int v1), some (.int v2), none]) (jle_v (jle_v (jle_v (jle_n jle_nil)))) ?_
        exact kA_answer_j46 hP  hd K HQ
      · replace K := (if_neg hc9).symm.trans K
        refine jx_next (pc := 24) (pc' := 25) rfl rfl ?_
        refine jx_next (pc := 25) (pc' := 26) rfl rfl ?_
        refine jx_icgt (pc := 26) rfl (fun hc10 => ?_) (fun hc10 => ?_)
        · replace K := (if_pos hc10).symm.trans K
          refine jx_le (pl' := [some (.ref 1), some (.int v1), some (.int v2), none]) (jle_v (jle_v (jle_v (jle_n jle_nil)))) ?_
          exact kA_answer_j46 hP  hd K HQ
        · replace K := (if_neg hc10).symm.trans K
          refine jx_next (pc := 29) (pc' := 30) rfl rfl ?_
          refine jx_getr2 (pc := 30) rfl jko_1 jr_1_5 ?_
          refine jx_getr2 (pc := 33) rfl jko_11 (jrm_6_2 jko_11) ?_
          refine jx_next (pc := 36) (pc' := 37) rfl rfl ?_
          obtain ⟨hg11, K⟩ := jguard K
          refine jx_iald2 (pc := 37) rfl (jkm_6_2 jko_11) (jnm_6_2 jko_11) hg11 ?_
          refine jx_next (pc := 38) (pc' := 39) rfl rfl ?_
          refine jx_iceq (pc := 39) rfl (fun hc12 => ?_) (fun hc12 => ?_)
          · replace K := (if_pos hc12).symm.trans K
            refine jx_le (pl' := [some (.ref 1), some (.int v1), some (.int v2), none]) (jle_v (jle_v (jle_v (jle_n jle_nil)))) ?_
            exact kA_answer_j46 hP  hd K HQ
          · replace K := (if_neg hc12).symm.trans K
            refine jx_next (pc := 42) (pc' := 43) rfl rfl ?_
            refine jx_next (pc := 43) (pc' := 47) rfl rfl ?_
            refine jx_le (pl' := [some (.ref 1), some (.int v1), some (.int v2), none]) (jle_v (jle_v (jle_v (jle_n jle_nil)))) ?_
            exact kA_answer_j47 hP  hd K HQ
/-- AndGuest.canPass(I)Z -/
noncomputable def fA_canPass (v1 : Int32) (h : jH) : Int32 :=
  (if (h.1 1 12) = 0 then
  (0 : Int32)
  else
  (if v1 < 1 then
  (0 : Int32)
  else
  (if 99 < v1 then
  (0 : Int32)
  else
  (if 999 < ((h.1 11 0) + v1) then
  (0 : Int32)
  else
  (1 : Int32)))))
theorem kA_canPass {X : jX} {dd : Nat} {p d : Nat} {q : Nat → Nat} {Q : Option Value → jS → Prop} {v1 : Int32} {h : jH} (hP : jOK p d q)  (hd : 0 ≤ dd) {z : Int32} (K : fA_canPass v1 h = z) (HQ : Q (some (.int z)) (176, jRf p d q, h)) :
    jCa X dd 160 [.ref 1, .int v1] (176, jRf p d q, h) Q := by
  unfold fA_canPass at K
  refine jCa_of (es := jc_160) (pl := [some (.ref 1), some (.int v1)]) (M := jm_160) rfl rfl rfl rfl ?_
  refine jx_next (pc := 0) (pc' := 1) rfl rfl ?_
  refine jx_getz (pc := 1) rfl jko_1 ?_
  refine jx_ifeq (pc := 4) rfl (fun hc1 => ?_) (fun hc1 => ?_)
  · replace K := (if_pos hc1).symm.trans K
    refine jx_next (pc := 37) (pc' := 38) rfl rfl ?_
    obtain rfl := K
    exact jx_zret (pc := 38) rfl (Or.inl rfl) HQ
  · replace K := (if_neg hc1).symm.trans K
    refine jx_next (pc := 7) (pc' := 8) rfl rfl ?_
    refine jx_next (pc := 8) (pc' := 9) rfl rfl ?_
    refine jx_iclt (pc := 9) rfl (fun hc2 => ?_) (fun hc2 => ?_)
    · replace K := (if_pos hc2).symm.trans K
      refine jx_next (pc := 37) (pc' := 38) rfl rfl ?_
      obtain rfl := K
      exact jx_zret (pc := 38) rfl (Or.inl rfl) HQ
    · replace K := (if_neg hc2).symm.trans K
      refine jx_next (pc := 12) (pc' := 13) rfl rfl ?_
      refine jx_next (pc := 13) (pc' := 15) rfl rfl ?_
      refine jx_icgt (pc := 15) rfl (fun hc3 => ?_) (fun hc3 => ?_)
      · replace K := (if_pos hc3).symm.trans K
        refine jx_next (pc := 37) (pc' := 38) rfl rfl ?_
        obtain rfl := K
        exact jx_zret (pc := 38) rfl (Or.inl rfl) HQ
      · replace K := (if_neg hc3).symm.trans K
        refine jx_next (pc := 18) (pc' := 19) rfl rfl ?_
        refine jx_getr2 (pc := 19) rfl jko_1 jr_1_5 ?_
        refine jx_geti (pc := 22) rfl jko_11 ?_
        refine jx_next (pc := 25) (pc' := 26) rfl rfl ?_
        refine jx_next (pc := 26) (pc' := 27) rfl rfl ?_
        refine jx_next (pc := 27) (pc' := 30) rfl rfl ?_
        refine jx_icgt (pc := 30) rfl (fun hc4 => ?_) (fun hc4 => ?_)
        · replace K := (if_pos hc4).symm.trans K
          refine jx_next (pc := 37) (pc' := 38) rfl rfl ?_
          obtain rfl := K
          exact jx_zret (pc := 38) rfl (Or.inl rfl) HQ
        · replace K := (if_neg hc4).symm.trans K
          refine jx_next (pc := 33) (pc' := 34) rfl rfl ?_
          refine jx_next (pc := 34) (pc' := 38) rfl rfl ?_
          obtain rfl := K
          exact jx_zret (pc := 38) rfl (Or.inr rfl) HQ
/-- AndGuest.weeks(I)Z -/
noncomputable def fA_weeks (q : (Nat → Nat)) (v1 : Int32) (h : jH) : Option (Int32 × (Nat → Nat) × jH) :=
  (if (fA_canPass v1 h) = 0 then
  (Option.bind (fA_refuse 3 h) (fun (z3 : jH) =>
  some (0, q, z3)))
  else
  (Option.bind (fPa_keep q 11 h) (fun (z4 : (Nat → Nat) × jH) =>
  some (1, z4.1, jhI z4.2 11 0 ((z4.2.1 11 0) + v1)))))
theorem kA_weeks {X : jX} {dd : Nat} {p d : Nat} {q : Nat → Nat} {Q : Option Value → jS → Prop} {v1 : Int32} {h : jH} (hP : jOK p d q)  (hd : 2 ≤ dd) {z : Int32 × (Nat → Nat) × jH} (K : fA_weeks q v1 h = some z) (HQ : jOK p d z.2.1 → Q (some (.int z.1)) (176, jRf p d z.2.1, z.2.2)) :
    jCa X dd 159 [.ref 1, .int v1] (176, jRf p d q, h) Q := by
  obtain ⟨dd, rfl⟩ : ∃ d9, dd = d9 + 1 := ⟨dd - 1, by omega⟩
  unfold fA_weeks at K
  refine jCa_of (es := jc_159) (pl := [some (.ref 1), some (.int v1)]) (M := jm_159) rfl rfl rfl rfl ?_
  refine jx_next (pc := 0) (pc' := 1) rfl rfl ?_
  refine jx_next (pc := 1) (pc' := 2) rfl rfl ?_
  refine jx_callv (pc := 2) (o := 1) (rest := []) rfl ⟨by decide, by decide⟩ rfl jko_1 (Nat.le_of_ble_eq_true rfl) ?_
  refine kA_canPass hP (by omega) rfl ?_
  refine jx_ifne (pc := 5) rfl (fun hc2 => ?_) (fun hc2 => ?_)
  · replace K := (if_pos hc2).symm.trans K
    refine jx_next (pc := 8) (pc' := 9) rfl rfl ?_
    refine jx_next (pc := 9) (pc' := 10) rfl rfl ?_
    refine jx_callv (pc := 10) (o := 1) (rest := []) rfl ⟨by decide, by decide⟩ rfl jko_1 (Nat.le_of_ble_eq_true rfl) ?_
    obtain ⟨z3, hz_z3, K⟩ := Option.bind_eq_some_iff.mp K
    refine kA_refuse hP (by omega) hz_z3 ?_
    refine jx_next (pc := 13) (pc' := 14) rfl rfl ?_
    obtain rfl := Option.some.inj K
    exact jx_zret (pc := 14) rfl (Or.inl rfl) (HQ hP)
  · replace K := (if_neg hc2).symm.trans K
    refine jx_next (pc := 15) (pc' := 16) rfl rfl ?_
    refine jx_getr2 (pc := 16) rfl jko_1 jr_1_7 ?_
    refine jx_next (pc := 19) (pc' := 20) rfl rfl ?_
    refine jx_getr2 (pc := 20) rfl jko_1 jr_1_5 ?_
    refine jx_callv (pc := 23) (o := 17) (rest := []) rfl ⟨by decide, by decide⟩ rfl jko_17 (Nat.le_of_ble_eq_true rfl) ?_
    obtain ⟨z4, hz_z4, K⟩ := Option.bind_eq_some_iff.mp K
    refine kPa_keep hP jko_11 (by omega) hz_z4 (fun hP_z4 => ?_)
    refine jx_next (pc := 26) (pc' := 27) rfl rfl ?_
    refine jx_getr2 (pc := 27) rfl jko_1 jr_1_5 ?_
    refine jx_next (pc := 30) (pc' := 31) rfl rfl ?_
    refine jx_geti (pc := 31) rfl jko_11 ?_
    refine jx_next (pc := 34) (pc' := 35) rfl rfl ?_
    refine jx_next (pc := 35) (pc' := 36) rfl rfl ?_
    refine jx_puti (pc := 36) rfl jko_11 ?_
    refine jx_next (pc := 39) (pc' := 40) rfl rfl ?_
    obtain rfl := Option.some.inj K
    exact jx_zret (pc := 40) rfl (Or.inr rfl) (HQ hP_z4)
/-- AndGuest.draw(I)I -/
noncomputable def fA_draw (v1 : Int32) (h : jH) : Option (Int32 × jH) :=
  (if 0 < v1 then
  (if ¬ v1 = 0 then
  some ((((jhI h 1 13 ((((1103515245 * ((h.1 1 13).toInt64)) + 12345) &&& 2147483647).toInt32)).1 1 13) >>> (6 &&& 31)) - (((jhI h 1 13 ((((1103515245 * ((h.1 1 13).toInt64)) + 12345) &&& 2147483647).toInt32)).1 1 13) >>> (6 &&& 31)) / v1 * v1, jhI h 1 13 ((((1103515245 * ((h.1 1 13).toInt64)) + 12345) &&& 2147483647).toInt32))
  else none)
  else
  some (0, jhI h 1 13 ((((1103515245 * ((h.1 1 13).toInt64)) + 12345) &&& 2147483647).toInt32)))
theorem kA_draw {X : jX} {dd : Nat} {p d : Nat} {q : Nat → Nat} {Q : Option Value → jS → Prop} {v1 : Int32} {h : jH} (hP : jOK p d q)  (hd : 0 ≤ dd) {z : Int32 × jH} (K : fA_draw v1 h = some z) (HQ : Q (some (.int z.1)) (176, jRf p d q, z.2)) :
    jCa X dd 163 [.ref 1, .int v1] (176, jRf p d q, h) Q := by
  unfold fA_draw at K
  refine jCa_of (es := jc_163) (pl := [some (.ref 1), some (.int v1)]) (M := jm_163) rfl rfl rfl rfl ?_
  refine jx_next (pc := 0) (pc' := 1) rfl rfl ?_
  refine jx_next (pc := 1) (pc' := 4) rfl rfl ?_
  refine jx_next (pc := 4) (pc' := 5) rfl rfl ?_
  refine jx_geti (pc := 5) rfl jko_1 ?_
  refine jx_next (pc := 8) (pc' := 9) rfl rfl ?_
  refine jx_next (pc := 9) (pc' := 10) rfl rfl ?_
  refine jx_next (pc := 10) (pc' := 13) rfl rfl ?_
  refine jx_next (pc := 13) (pc' := 14) rfl rfl ?_
  refine jx_next (pc := 14) (pc' := 17) rfl rfl ?_
  refine jx_next (pc := 17) (pc' := 18) rfl rfl ?_
  refine jx_next (pc := 18) (pc' := 19) rfl rfl ?_
  refine jx_puti (pc := 19) rfl jko_1 ?_
  refine jx_next (pc := 22) (pc' := 23) rfl rfl ?_
  refine jx_ifle (pc := 23) rfl (fun hc1 => ?_) (fun hc1 => ?_)
  · replace K := (if_pos hc1).symm.trans K
    refine jx_next (pc := 26) (pc' := 27) rfl rfl ?_
    refine jx_geti (pc := 27) rfl jko_1 ?_
    refine jx_next (pc := 30) (pc' := 32) rfl rfl ?_
    refine jx_next (pc := 32) (pc' := 33) rfl rfl ?_
    refine jx_next (pc := 33) (pc' := 34) rfl rfl ?_
    obtain ⟨hg, K⟩ := jguard K
    refine jx_irem (pc := 34) rfl hg ?_
    refine jx_next (pc := 35) (pc' := 39) rfl rfl ?_
    obtain rfl := Option.some.inj K
    exact jx_iret (pc := 39) rfl HQ
  · replace K := (if_neg hc1).symm.trans K
    refine jx_next (pc := 38) (pc' := 39) rfl rfl ?_
    obtain rfl := Option.some.inj K
    exact jx_iret (pc := 39) rfl HQ
noncomputable def fA_passWeekBySeed_l12_j84 (p : Nat) (v2 : Int32) (v3 : Int32) (h : jH) : Option ((Int32 × Int32 × jH) ⊕ (Int32 × jH)) :=
  some (.inl (v2, v3 + 1, h))
theorem kA_passWeekBySeed_l12_j84 {X : jX} {dd : Nat} {p d : Nat} {q : Nat → Nat} {Q : Option Value → jS → Prop} {v2 : Int32} {v3 : Int32} {h : jH} (hP : jOK p d q)  (hd : 1 ≤ (dd + 1)) {z : (Int32 × Int32 × jH) ⊕ (Int32 × jH)} (K : fA_passWeekBySeed_l12_j84 p v2 v3 h = some z) (HL : ∀ s : Int32 × Int32 × jH, z = .inl s → jEx X (dd + 1) jc_162 12 [some (.ref 1), some (.ref p), some (.int s.1), some (.int s.2.1)] [] (176, jRf p d q, s.2.2) Q) (HE0 : ∀ x : Int32 × jH, z = .inr x → jEx X (dd + 1) jc_162 90 [some (.ref 1), none, some (.int x.1), none] [] (176, jRf p d q, x.2) Q) :
    jEx X (dd + 1) jc_162 84 [some (.ref 1), some (.ref p), some (.int v2), some (.int v3)] [] (176, jRf p d q, h) Q := by
  unfold fA_passWeekBySeed_l12_j84 at K
  refine jx_inc (pc := 84) (x := v3) (p2 := [some (.ref 1), some (.ref p), some (.int v2), some (.int (v3 + 1))]) rfl rfl (jlt rfl) rfl ?_
  refine jx_next (pc := 87) (pc' := 12) rfl rfl ?_
  obtain rfl := Option.some.inj K
  refine jx_le (pl' := [some (.ref 1), some (.ref p), some (.int v2), some (.int (v3 + 1))]) (jle_v (jle_v (jle_v (jle_v jle_nil)))) ?_
  exact HL (v2, v3 + 1, h) rfl
noncomputable def fA_passWeekBySeed_l12_j80 (p : Nat) (v2 : Int32) (v3 : Int32) (s0 : Nat) (s1 : Int32) (s2 : Int32) (h : jH) : Option ((Int32 × Int32 × jH) ⊕ (Int32 × jH)) :=
  (if jin s1 (jsh s0).2 then
  fA_passWeekBySeed_l12_j84  p (v2 + 1) v3 (jhI h s0 s1.toNatClampNeg s2)
  else none)
theorem kA_passWeekBySeed_l12_j80 {X : jX} {dd : Nat} {p d : Nat} {q : Nat → Nat} {Q : Option Value → jS → Prop} {v2 : Int32} {v3 : Int32} {s0 : Nat} {s1 : Int32} {s2 : Int32} {h : jH} (hP : jOK p d q) (hs0 : jcl 176 s0 = 20) (hd : 1 ≤ (dd + 1)) {z : (Int32 × Int32 × jH) ⊕ (Int32 × jH)} (K : fA_passWeekBySeed_l12_j80 p v2 v3 s0 s1 s2 h = some z) (HL : ∀ s : Int32 × Int32 × jH, z = .inl s → jEx X (dd + 1) jc_162 12 [some (.ref 1), some (.ref p), some (.int s.1), some (.int s.2.1)] [] (176, jRf p d q, s.2.2) Q) (HE0 : ∀ x : Int32 × jH, z = .inr x → jEx X (dd + 1) jc_162 90 [some (.ref 1), none, some (.int x.1), none] [] (176, jRf p d q, x.2) Q) :
    jEx X (dd + 1) jc_162 80 [some (.ref 1), some (.ref p), some (.int v2), some (.int v3)] [.int s2, .int s1, .ref s0] (176, jRf p d q, h) Q := by
  unfold fA_passWeekBySeed_l12_j80 at K
  obtain ⟨hg11, K⟩ := jguard K
  refine jx_iast2 (pc := 80) rfl hs0 rfl hg11 ?_
  refine jx_inc (pc := 81) (x := v2) (p2 := [some (.ref 1), some (.ref p), some (.int (v2 + 1)), some (.int v3)]) rfl rfl (jlt rfl) rfl ?_
  refine jx_le (pl' := [some (.ref 1), some (.ref p), some (.int (v2 + 1)), some (.int v3)]) (jle_v (jle_v (jle_v (jle_v jle_nil)))) ?_
  exact kA_passWeekBySeed_l12_j84 hP  hd K HL HE0
noncomputable def fA_passWeekBySeed_l12_b (p : Nat) (v2 : Int32) (v3 : Int32) (h : jH) : Option ((Int32 × Int32 × jH) ⊕ (Int32 × jH)) :=
  (if v3 < (h.1 p 0) then
  (if v3 < 8 then
  (if jin v3 8 then
  (if (h.1 (11 + 1) v3.toNatClampNeg) = 1 then
  (Option.bind (fA_draw 100 h) (fun (z6 : Int32 × jH) =>
  (if z6.1 < (z6.2.1 p 8) then
  (Option.bind (fA_draw 10 z6.2) (fun (z8 : Int32 × jH) =>
  (if jin v3 8 then
  (if z8.1 < (z8.2.1 (p + 2) v3.toNatClampNeg) then
  fA_passWeekBySeed_l12_j80  p v2 v3 (11 + 1) v3 2 z8.2
  else
  fA_passWeekBySeed_l12_j80  p v2 v3 (11 + 1) v3 3 z8.2)
  else none)))
  else
  fA_passWeekBySeed_l12_j84  p v2 v3 z6.2)))
  else
  fA_passWeekBySeed_l12_j84  p v2 v3 h)
  else none)
  else
  some (.inr (v2, h)))
  else
  some (.inr (v2, h)))
noncomputable def fA_passWeekBySeed_l12 (p : Nat)  : (Int32 × Int32 × jH) → Option ((Int32 × Int32 × jH) ⊕ (Int32 × jH)) :=
  fun (s : Int32 × Int32 × jH) => fA_passWeekBySeed_l12_b p s.1 s.2.1 s.2.2
theorem kA_passWeekBySeed_l12_b {X : jX} {dd : Nat} {p d : Nat} {q : Nat → Nat} {Q : Option Value → jS → Prop} {v2 : Int32} {v3 : Int32} {h : jH} (hP : jOK p d q)  (hd : 1 ≤ (dd + 1)) {z : (Int32 × Int32 × jH) ⊕ (Int32 × jH)} (K : fA_passWeekBySeed_l12_b p v2 v3 h = some z) (HL : ∀ s : Int32 × Int32 × jH, z = .inl s → jEx X (dd + 1) jc_162 12 [some (.ref 1), some (.ref p), some (.int s.1), some (.int s.2.1)] [] (176, jRf p d q, s.2.2) Q) (HE0 : ∀ x : Int32 × jH, z = .inr x → jEx X (dd + 1) jc_162 90 [some (.ref 1), none, some (.int x.1), none] [] (176, jRf p d q, x.2) Q) :
    jEx X (dd + 1) jc_162 12 [some (.ref 1), some (.ref p), some (.int v2), some (.int v3)] [] (176, jRf p d q, h) Q := by
  unfold fA_passWeekBySeed_l12_b at K
  refine jx_next (pc := 12) (pc' := 13) rfl rfl ?_
  refine jx_next (pc := 13) (pc' := 14) rfl rfl ?_
  refine jx_geti (pc := 14) rfl hP.1 ?_
  refine jx_icge (pc := 17) rfl (fun hc2 => ?_) (fun hc2 => ?_)
  · replace K := (if_pos hc2).symm.trans K
    refine jx_next (pc := 20) (pc' := 21) rfl rfl ?_
    refine jx_next (pc := 21) (pc' := 23) rfl rfl ?_
    refine jx_icge (pc := 23) rfl (fun hc3 => ?_) (fun hc3 => ?_)
    · replace K := (if_pos hc3).symm.trans K
      refine jx_next (pc := 26) (pc' := 27) rfl rfl ?_
      refine jx_getr2 (pc := 27) rfl jko_1 jr_1_5 ?_
      refine jx_getr2 (pc := 30) rfl jko_11 (jrm_6_2 jko_11) ?_
      refine jx_next (pc := 33) (pc' := 34) rfl rfl ?_
      obtain ⟨hg4, K⟩ := jguard K
      refine jx_iald2 (pc := 34) rfl (jkm_6_2 jko_11) (jnm_6_2 jko_11) hg4 ?_
      refine jx_next (pc := 35) (pc' := 36) rfl rfl ?_
      refine jx_icne (pc := 36) rfl (fun hc5 => ?_) (fun hc5 => ?_)
      · replace K := (if_pos hc5).symm.trans K
        refine jx_next (pc := 39) (pc' := 40) rfl rfl ?_
        refine jx_next (pc := 40) (pc' := 42) rfl rfl ?_
        refine jx_callv (pc := 42) (o := 1) (rest := []) rfl ⟨by decide, by decide⟩ rfl jko_1 (Nat.le_of_ble_eq_true rfl) ?_
        obtain ⟨z6, hz_z6, K⟩ := Option.bind_eq_some_iff.mp K
        refine kA_draw hP (by omega) hz_z6 ?_
        refine jx_next (pc := 45) (pc' := 46) rfl rfl ?_
        refine jx_geti (pc := 46) rfl hP.1 ?_
        refine jx_icge (pc := 49) rfl (fun hc7 => ?_) (fun hc7 => ?_)
        · replace K := (if_pos hc7).symm.trans K
          refine jx_next (pc := 52) (pc' := 53) rfl rfl ?_
          refine jx_getr2 (pc := 53) rfl jko_1 jr_1_5 ?_
          refine jx_getr2 (pc := 56) rfl jko_11 (jrm_6_2 jko_11) ?_
          refine jx_next (pc := 59) (pc' := 60) rfl rfl ?_
          refine jx_next (pc := 60) (pc' := 61) rfl rfl ?_
          refine jx_next (pc := 61) (pc' := 63) rfl rfl ?_
          refine jx_callv (pc := 63) (o := 1) (rest := [.int v3, .ref (11 + 1)]) rfl ⟨by decide, by decide⟩ rfl jko_1 (Nat.le_of_ble_eq_true rfl) ?_
          obtain ⟨z8, hz_z8, K⟩ := Option.bind_eq_some_iff.mp K
          refine kA_draw hP (by omega) hz_z8 ?_
          refine jx_next (pc := 66) (pc' := 67) rfl rfl ?_
          refine jx_getr2 (pc := 67) rfl hP.1 (jrm_10_11 hP.1) ?_
          refine jx_next (pc := 70) (pc' := 71) rfl rfl ?_
          obtain ⟨hg9, K⟩ := jguard K
          refine jx_iald2 (pc := 71) rfl (jkm_10_11 hP.1) (jnm_10_11 hP.1) hg9 ?_
          refine jx_icge (pc := 72) rfl (fun hc10 => ?_) (fun hc10 => ?_)
          · replace K := (if_pos hc10).symm.trans K
            refine jx_next (pc := 75) (pc' := 76) rfl rfl ?_
            refine jx_next (pc := 76) (pc' := 80) rfl rfl ?_
            refine jx_le (pl' := [some (.ref 1), some (.ref p), some (.int v2), some (.int v3)]) (jle_v (jle_v (jle_v (jle_v jle_nil)))) ?_
            exact kA_passWeekBySeed_l12_j80 hP (jkm_6_2 jko_11) hd K HL HE0
          · replace K := (if_neg hc10).symm.trans K
            refine jx_next (pc := 79) (pc' := 80) rfl rfl ?_
            refine jx_le (pl' := [some (.ref 1), some (.ref p), some (.int v2), some (.int v3)]) (jle_v (jle_v (jle_v (jle_v jle_nil)))) ?_
            exact kA_passWeekBySeed_l12_j80 hP (jkm_6_2 jko_11) hd K HL HE0
        · replace K := (if_neg hc7).symm.trans K
          refine jx_le (pl' := [some (.ref 1), some (.ref p), some (.int v2), some (.int v3)]) (jle_v (jle_v (jle_v (jle_v jle_nil)))) ?_
          exact kA_passWeekBySeed_l12_j84 hP  hd K HL HE0
      · replace K := (if_neg hc5).symm.trans K
        refine jx_le (pl' := [some (.ref 1), some (.ref p), some (.int v2), some (.int v3)]) (jle_v (jle_v (jle_v (jle_v jle_nil)))) ?_
        exact kA_passWeekBySeed_l12_j84 hP  hd K HL HE0
    · replace K := (if_neg hc3).symm.trans K
      obtain rfl := Option.some.inj K
      refine jx_le (pl' := [some (.ref 1), none, some (.int v2), none]) (jle_v (jle_n (jle_v (jle_n jle_nil)))) ?_
      exact HE0 _ rfl
  · replace K := (if_neg hc2).symm.trans K
    obtain rfl := Option.some.inj K
    refine jx_le (pl' := [some (.ref 1), none, some (.int v2), none]) (jle_v (jle_n (jle_v (jle_n jle_nil)))) ?_
    exact HE0 _ rfl
theorem kA_passWeekBySeed_l12_w {X : jX} {dd : Nat} {p d : Nat} {q : Nat → Nat} {Q : Option Value → jS → Prop}  (hP : jOK p d q)  (hd : 1 ≤ (dd + 1)) {s : Int32 × Int32 × jH} {x : Int32 × jH} (K : jlim (fA_passWeekBySeed_l12 p ) s = some x) (HE : jEx X (dd + 1) jc_162 90 [some (.ref 1), none, some (.int x.1), none] [] (176, jRf p d q, x.2) Q) :
    jEx X (dd + 1) jc_162 12 [some (.ref 1), some (.ref p), some (.int s.1), some (.int s.2.1)] [] (176, jRf p d q, s.2.2) Q := by
  refine jlim_ok (G := fun s : Int32 × Int32 × jH => jEx X (dd + 1) jc_162 12 [some (.ref 1), some (.ref p), some (.int s.1), some (.int s.2.1)] [] (176, jRf p d q, s.2.2) Q) (GX := fun x : Int32 × jH => jEx X (dd + 1) jc_162 90 [some (.ref 1), none, some (.int x.1), none] [] (176, jRf p d q, x.2) Q) (fun s z hz HL HE => ?_) K HE
  exact kA_passWeekBySeed_l12_b hP  hd hz HL HE
/-- AndGuest.passWeekBySeed()I -/
noncomputable def fA_passWeekBySeed (p : Nat)  (h : jH) : Option (Int32 × jH) :=
  (Option.bind (jlim (fA_passWeekBySeed_l12  p) (0, 0, h)) (fun (x12 : Int32 × jH) =>
  some (x12.1, jhI x12.2 11 0 ((x12.2.1 11 0) + 1))))
theorem kA_passWeekBySeed {X : jX} {dd : Nat} {p d : Nat} {q : Nat → Nat} {Q : Option Value → jS → Prop}  {h : jH} (hP : jOK p d q)  (hd : 1 ≤ dd) {z : Int32 × jH} (K : fA_passWeekBySeed p  h = some z) (HQ : Q (some (.int z.1)) (176, jRf p d q, z.2)) :
    jCa X dd 162 [.ref 1] (176, jRf p d q, h) Q := by
  obtain ⟨dd, rfl⟩ : ∃ d9, dd = d9 + 1 := ⟨dd - 1, by omega⟩
  unfold fA_passWeekBySeed at K
  refine jCa_of (es := jc_162) (pl := [some (.ref 1), none, none, none]) (M := jm_162) rfl rfl rfl rfl ?_
  refine jx_next (pc := 0) (pc' := 1) rfl rfl ?_
  refine jx_getr2 (pc := 1) rfl jko_1 jr_1_8 ?_
  refine jx_callv (pc := 4) (o := 79) (rest := []) rfl ⟨by decide, by decide⟩ rfl jko_79 (Nat.le_of_ble_eq_true rfl) ?_
  refine kPy_plan hP (by omega) rfl ?_
  refine jx_stan (pc := 7) (p2 := [some (.ref 1), some (.ref p), none, none]) rfl (jlt rfl) rfl ?_
  refine jx_next (pc := 8) (pc' := 9) rfl rfl ?_
  refine jx_stin (pc := 9) (p2 := [some (.ref 1), some (.ref p), some (.int 0), none]) rfl (jlt rfl) rfl ?_
  refine jx_next (pc := 10) (pc' := 11) rfl rfl ?_
  refine jx_stin (pc := 11) (p2 := [some (.ref 1), some (.ref p), some (.int 0), some (.int 0)]) rfl (jlt rfl) rfl ?_
  refine jx_le (pl' := [some (.ref 1), some (.ref p), some (.int 0), some (.int 0)]) (jle_v (jle_v (jle_v (jle_v jle_nil)))) ?_
  obtain ⟨x12, hz_x12, K⟩ := Option.bind_eq_some_iff.mp K
  refine kA_passWeekBySeed_l12_w hP  hd hz_x12 ?_
  refine jx_next (pc := 90) (pc' := 91) rfl rfl ?_
  refine jx_getr2 (pc := 91) rfl jko_1 jr_1_5 ?_
  refine jx_next (pc := 94) (pc' := 95) rfl rfl ?_
  refine jx_geti (pc := 95) rfl jko_11 ?_
  refine jx_next (pc := 98) (pc' := 99) rfl rfl ?_
  refine jx_next (pc := 99) (pc' := 100) rfl rfl ?_
  refine jx_puti (pc := 100) rfl jko_11 ?_
  refine jx_next (pc := 103) (pc' := 104) rfl rfl ?_
  obtain rfl := Option.some.inj K
  exact jx_iret (pc := 104) rfl HQ
noncomputable def fA_chance_l30_b (p : Nat) (q : (Nat → Nat)) (v1 : Int32) (v2 : Int32) (v3 : Int32) (h : jH) : Option ((Int32 × Int32 × jH) ⊕ (Int32 × jH)) :=
  (if v3 < v1 then
  (Option.bind (fA_passWeekBySeed p h) (fun (z6 : Int32 × jH) =>
  some (.inl (v2 + z6.1, v3 + 1, z6.2))))
  else
  some (.inr (v2, h)))
noncomputable def fA_chance_l30 (p : Nat) (q : (Nat → Nat)) (v1 : Int32) : (Int32 × Int32 × jH) → Option ((Int32 × Int32 × jH) ⊕ (Int32 × jH)) :=
  fun (s : Int32 × Int32 × jH) => fA_chance_l30_b p q v1 s.1 s.2.1 s.2.2
theorem kA_chance_l30_b {X : jX} {dd : Nat} {p d : Nat} {q : Nat → Nat} {Q : Option Value → jS → Prop} {v1 : Int32} {v2 : Int32} {v3 : Int32} {h : jH} (hP : jOK p d q)  (hd : 2 ≤ (dd + 1)) {z : (Int32 × Int32 × jH) ⊕ (Int32 × jH)} (K : fA_chance_l30_b p q v1 v2 v3 h = some z) (HL : ∀ s : Int32 × Int32 × jH, z = .inl s → jEx X (dd + 1) jc_161 30 [some (.ref 1), some (.int v1), some (.int s.1), some (.int s.2.1)] [] (176, jRf p d q, s.2.2) Q) (HE0 : ∀ x : Int32 × jH, z = .inr x → jEx X (dd + 1) jc_161 48 [none, none, some (.int x.1), none] [] (176, jRf p d q, x.2) Q) :
    jEx X (dd + 1) jc_161 30 [some (.ref 1), some (.int v1), some (.int v2), some (.int v3)] [] (176, jRf p d q, h) Q := by
  unfold fA_chance_l30_b at K
  refine jx_next (pc := 30) (pc' := 31) rfl rfl ?_
  refine jx_next (pc := 31) (pc' := 32) rfl rfl ?_
  refine jx_icge (pc := 32) rfl (fun hc5 => ?_) (fun hc5 => ?_)
  · replace K := (if_pos hc5).symm.trans K
    refine jx_next (pc := 35) (pc' := 36) rfl rfl ?_
    refine jx_next (pc := 36) (pc' := 37) rfl rfl ?_
    refine jx_callv (pc := 37) (o := 1) (rest := [.int v2]) rfl ⟨by decide, by decide⟩ rfl jko_1 (Nat.le_of_ble_eq_true rfl) ?_
    obtain ⟨z6, hz_z6, K⟩ := Option.bind_eq_some_iff.mp K
    refine kA_passWeekBySeed hP (by omega) hz_z6 ?_
    refine jx_next (pc := 40) (pc' := 41) rfl rfl ?_
    refine jx_stin (pc := 41) (p2 := [some (.ref 1), some (.int v1), some (.int (v2 + z6.1)), some (.int v3)]) rfl (jlt rfl) rfl ?_
    refine jx_inc (pc := 42) (x := v3) (p2 := [some (.ref 1), some (.int v1), some (.int (v2 + z6.1)), some (.int (v3 + 1))]) rfl rfl (jlt rfl) rfl ?_
    refine jx_next (pc := 45) (pc' := 30) rfl rfl ?_
    obtain rfl := Option.some.inj K
    refine jx_le (pl' := [some (.ref 1), some (.int v1), some (.int (v2 + z6.1)), some (.int (v3 + 1))]) (jle_v (jle_v (jle_v (jle_v jle_nil)))) ?_
    exact HL (v2 + z6.1, v3 + 1, z6.2) rfl
  · replace K := (if_neg hc5).symm.trans K
    obtain rfl := Option.some.inj K
    refine jx_le (pl' := [none, none, some (.int v2), none]) (jle_n (jle_n (jle_v (jle_n jle_nil)))) ?_
    exact HE0 _ rfl
theorem kA_chance_l30_w {X : jX} {dd : Nat} {p d : Nat} {q : Nat → Nat} {Q : Option Value → jS → Prop} {v1 : Int32} (hP : jOK p d q)  (hd : 2 ≤ (dd + 1)) {s : Int32 × Int32 × jH} {x : Int32 × jH} (K : jlim (fA_chance_l30 p q v1) s = some x) (HE : jEx X (dd + 1) jc_161 48 [none, none, some (.int x.1), none] [] (176, jRf p d q, x.2) Q) :
    jEx X (dd + 1) jc_161 30 [some (.ref 1), some (.int v1), some (.int s.1), some (.int s.2.1)] [] (176, jRf p d q, s.2.2) Q := by
  refine jlim_ok (G := fun s : Int32 × Int32 × jH => jEx X (dd + 1) jc_161 30 [some (.ref 1), some (.int v1), some (.int s.1), some (.int s.2.1)] [] (176, jRf p d q, s.2.2) Q) (GX := fun x : Int32 × jH => jEx X (dd + 1) jc_161 48 [none, none, some (.int x.1), none] [] (176, jRf p d q, x.2) Q) (fun s z hz HL HE => ?_) K HE
  exact kA_chance_l30_b hP  hd hz HL HE
/-- AndGuest.chance(I)I -/
noncomputable def fA_chance (p : Nat) (q : (Nat → Nat)) (v1 : Int32) (h : jH) : Option (Int32 × (Nat → Nat) × jH) :=
  (if (fA_canPass v1 h) = 0 then
  (Option.bind (fA_refuse 3 h) (fun (z3 : jH) =>
  some ((-1), q, z3)))
  else
  (Option.bind (fPa_keep q 11 h) (fun (z4 : (Nat → Nat) × jH) =>
  (Option.bind (jlim (fA_chance_l30  p z4.1 v1) (0, 0, z4.2)) (fun (x7 : Int32 × jH) =>
  some (x7.1, z4.1, x7.2))))))
theorem kA_chance {X : jX} {dd : Nat} {p d : Nat} {q : Nat → Nat} {Q : Option Value → jS → Prop} {v1 : Int32} {h : jH} (hP : jOK p d q)  (hd : 2 ≤ dd) {z : Int32 × (Nat → Nat) × jH} (K : fA_chance p q v1 h = some z) (HQ : jOK p d z.2.1 → Q (some (.int z.1)) (176, jRf p d z.2.1, z.2.2)) :
    jCa X dd 161 [.ref 1, .int v1] (176, jRf p d q, h) Q := by
  obtain ⟨dd, rfl⟩ : ∃ d9, dd = d9 + 1 := ⟨dd - 1, by omega⟩
  unfold fA_chance at K
  refine jCa_of (es := jc_161) (pl := [some (.ref 1), some (.int v1), none, none]) (M := jm_161) rfl rfl rfl rfl ?_
  refine jx_next (pc := 0) (pc' := 1) rfl rfl ?_
  refine jx_next (pc := 1) (pc' := 2) rfl rfl ?_
  refine jx_callv (pc := 2) (o := 1) (rest := []) rfl ⟨by decide, by decide⟩ rfl jko_1 (Nat.le_of_ble_eq_true rfl) ?_
  refine kA_canPass hP (by omega) rfl ?_
  refine jx_ifne (pc := 5) rfl (fun hc2 => ?_) (fun hc2 => ?_)
  · replace K := (if_pos hc2).symm.trans K
    refine jx_next (pc := 8) (pc' := 9) rfl rfl ?_
    refine jx_next (pc := 9) (pc' := 10) rfl rfl ?_
    refine jx_callv (pc := 10) (o := 1) (rest := []) rfl ⟨by decide, by decide⟩ rfl jko_1 (Nat.le_of_ble_eq_true rfl) ?_
    obtain ⟨z3, hz_z3, K⟩ := Option.bind_eq_some_iff.mp K
    refine kA_refuse hP (by omega) hz_z3 ?_
    refine jx_next (pc := 13) (pc' := 14) rfl rfl ?_
    obtain rfl := Option.some.inj K
    exact jx_iret (pc := 14) rfl (HQ hP)
  · replace K := (if_neg hc2).symm.trans K
    refine jx_next (pc := 15) (pc' := 16) rfl rfl ?_
    refine jx_getr2 (pc := 16) rfl jko_1 jr_1_7 ?_
    refine jx_next (pc := 19) (pc' := 20) rfl rfl ?_
    refine jx_getr2 (pc := 20) rfl jko_1 jr_1_5 ?_
    refine jx_callv (pc := 23) (o := 17) (rest := []) rfl ⟨by decide, by decide⟩ rfl jko_17 (Nat.le_of_ble_eq_true rfl) ?_
    obtain ⟨z4, hz_z4, K⟩ := Option.bind_eq_some_iff.mp K
    refine kPa_keep hP jko_11 (by omega) hz_z4 (fun hP_z4 => ?_)
    refine jx_next (pc := 26) (pc' := 27) rfl rfl ?_
    refine jx_stin (pc := 27) (p2 := [some (.ref 1), some (.int v1), some (.int 0), none]) rfl (jlt rfl) rfl ?_
    refine jx_next (pc := 28) (pc' := 29) rfl rfl ?_
    refine jx_stin (pc := 29) (p2 := [some (.ref 1), some (.int v1), some (.int 0), some (.int 0)]) rfl (jlt rfl) rfl ?_
    refine jx_le (pl' := [some (.ref 1), some (.int v1), some (.int 0), some (.int 0)]) (jle_v (jle_v (jle_v (jle_v jle_nil)))) ?_
    obtain ⟨x7, hz_x7, K⟩ := Option.bind_eq_some_iff.mp K
    refine kA_chance_l30_w hP_z4  hd hz_x7 ?_
    refine jx_next (pc := 48) (pc' := 49) rfl rfl ?_
    obtain rfl := Option.some.inj K
    exact jx_iret (pc := 49) rfl (HQ hP_z4)
/-- AndGuest$Past.giveBack(LAndGuest$Standing;)Z -/
noncomputable def fPa_giveBack (q : (Nat → Nat)) (v1 : Nat) (h : jH) : Option (Int32 × jH) :=
  (if 0 < (h.1 17 1) then
  (if 20 < (h.1 17 1) then
  some (0, h)
  else
  (if jin ((jhI h 17 1 ((h.1 17 1) - 1)).1 17 1) 20 then
  (Option.bind (fSd_copyFrom v1 (q (((jhI h 17 1 ((h.1 17 1) - 1)).1 17 1).toNatClampNeg)) (jhI h 17 1 ((h.1 17 1) - 1))) (fun (z4 : jH) =>
  some (1, z4)))
  else none))
  else
  some (0, h))
theorem kPa_giveBack {X : jX} {dd : Nat} {p d : Nat} {q : Nat → Nat} {Q : Option Value → jS → Prop} {v1 : Nat} {h : jH} (hP : jOK p d q) (hv1 : jcl 176 v1 = 6) (hd : 1 ≤ dd) {z : Int32 × jH} (K : fPa_giveBack q v1 h = some z) (HQ : Q (some (.int z.1)) (176, jRf p d q, z.2)) :
    jCa X dd 165 [.ref 17, .ref v1] (176, jRf p d q, h) Q := by
  obtain ⟨dd, rfl⟩ : ∃ d9, dd = d9 + 1 := ⟨dd - 1, by omega⟩
  unfold fPa_giveBack at K
  refine jCa_of (es := jc_165) (pl := [some (.ref 17), some (.ref v1)]) (M := jm_165) rfl rfl rfl rfl ?_
  refine jx_next (pc := 0) (pc' := 1) rfl rfl ?_
  refine jx_geti (pc := 1) rfl jko_17 ?_
  refine jx_ifle (pc := 4) rfl (fun hc1 => ?_) (fun hc1 => ?_)
  · replace K := (if_pos hc1).symm.trans K
    refine jx_next (pc := 7) (pc' := 8) rfl rfl ?_
    refine jx_geti (pc := 8) rfl jko_17 ?_
    refine jx_next (pc := 11) (pc' := 13) rfl rfl ?_
    refine jx_icle (pc := 13) rfl (fun hc2 => ?_) (fun hc2 => ?_)
    · replace K := (if_pos hc2).symm.trans K
      refine jx_next (pc := 16) (pc' := 17) rfl rfl ?_
      obtain rfl := Option.some.inj K
      exact jx_zret (pc := 17) rfl (Or.inl rfl) HQ
    · replace K := (if_neg hc2).symm.trans K
      refine jx_next (pc := 18) (pc' := 19) rfl rfl ?_
      refine jx_next (pc := 19) (pc' := 20) rfl rfl ?_
      refine jx_geti (pc := 20) rfl jko_17 ?_
      refine jx_next (pc := 23) (pc' := 24) rfl rfl ?_
      refine jx_next (pc := 24) (pc' := 25) rfl rfl ?_
      refine jx_puti (pc := 25) rfl jko_17 ?_
      refine jx_next (pc := 28) (pc' := 29) rfl rfl ?_
      refine jx_next (pc := 29) (pc' := 30) rfl rfl ?_
      refine jx_getr2 (pc := 30) rfl jko_17 jr_7_0 ?_
      refine jx_next (pc := 33) (pc' := 34) rfl rfl ?_
      refine jx_geti (pc := 34) rfl jko_17 ?_
      obtain ⟨hg3, K⟩ := jguard K
      refine jx_aald2 (pc := 37) rfl   hg3 ?_
      refine jx_callv (pc := 38) (o := v1) (rest := []) rfl ⟨by decide, by decide⟩ rfl hv1 (Nat.le_of_ble_eq_true rfl) ?_
      obtain ⟨z4, hz_z4, K⟩ := Option.bind_eq_some_iff.mp K
      refine kSd_copyFrom hP hv1 (hP.2.2 _ hg3.2) (by omega) hz_z4 ?_
      refine jx_next (pc := 41) (pc' := 42) rfl rfl ?_
      obtain rfl := Option.some.inj K
      exact jx_zret (pc := 42) rfl (Or.inr rfl) HQ
  · replace K := (if_neg hc1).symm.trans K
    refine jx_next (pc := 16) (pc' := 17) rfl rfl ?_
    obtain rfl := Option.some.inj K
    exact jx_zret (pc := 17) rfl (Or.inl rfl) HQ
/-- AndGuest.undo()Z -/
noncomputable def fA_undo (q : (Nat → Nat))  (h : jH) : Option (Int32 × jH) :=
  (Option.bind (fPa_giveBack q 11 h) (fun (z1 : Int32 × jH) =>
  (if z1.1 = 0 then
  (Option.bind (fA_refuse 4 z1.2) (fun (z3 : jH) =>
  some (0, z3)))
  else
  some (1, z1.2))))
theorem kA_undo {X : jX} {dd : Nat} {p d : Nat} {q : Nat → Nat} {Q : Option Value → jS → Prop}  {h : jH} (hP : jOK p d q)  (hd : 2 ≤ dd) {z : Int32 × jH} (K : fA_undo q  h = some z) (HQ : Q (some (.int z.1)) (176, jRf p d q, z.2)) :
    jCa X dd 164 [.ref 1] (176, jRf p d q, h) Q := by
  obtain ⟨dd, rfl⟩ : ∃ d9, dd = d9 + 1 := ⟨dd - 1, by omega⟩
  unfold fA_undo at K
  refine jCa_of (es := jc_164) (pl := [some (.ref 1)]) (M := jm_164) rfl rfl rfl rfl ?_
  refine jx_next (pc := 0) (pc' := 1) rfl rfl ?_
  refine jx_getr2 (pc := 1) rfl jko_1 jr_1_7 ?_
  refine jx_next (pc := 4) (pc' := 5) rfl rfl ?_
  refine jx_getr2 (pc := 5) rfl jko_1 jr_1_5 ?_
  refine jx_callv (pc := 8) (o := 17) (rest := []) rfl ⟨by decide, by decide⟩ rfl jko_17 (Nat.le_of_ble_eq_true rfl) ?_
  obtain ⟨z1, hz_z1, K⟩ := Option.bind_eq_some_iff.mp K
  refine kPa_giveBack hP jko_11 (by omega) hz_z1 ?_
  refine jx_ifne (pc := 11) rfl (fun hc2 => ?_) (fun hc2 => ?_)
  · replace K := (if_pos hc2).symm.trans K
    refine jx_next (pc := 14) (pc' := 15) rfl rfl ?_
    refine jx_next (pc := 15) (pc' := 16) rfl rfl ?_
    refine jx_callv (pc := 16) (o := 1) (rest := []) rfl ⟨by decide, by decide⟩ rfl jko_1 (Nat.le_of_ble_eq_true rfl) ?_
    obtain ⟨z3, hz_z3, K⟩ := Option.bind_eq_some_iff.mp K
    refine kA_refuse hP (by omega) hz_z3 ?_
    refine jx_next (pc := 19) (pc' := 20) rfl rfl ?_
    obtain rfl := Option.some.inj K
    exact jx_zret (pc := 20) rfl (Or.inl rfl) HQ
  · replace K := (if_neg hc2).symm.trans K
    refine jx_next (pc := 21) (pc' := 22) rfl rfl ?_
    obtain rfl := Option.some.inj K
    exact jx_zret (pc := 22) rfl (Or.inr rfl) HQ
/-- AndGuest.seed(I)Z -/
noncomputable def fA_seed (v1 : Int32) (h : jH) : Option (Int32 × jH) :=
  (if v1 < 0 then
  (Option.bind (fA_refuse 5 h) (fun (z2 : jH) =>
  some (0, z2)))
  else
  some (1, jhI h 1 13 v1))
theorem kA_seed {X : jX} {dd : Nat} {p d : Nat} {q : Nat → Nat} {Q : Option Value → jS → Prop} {v1 : Int32} {h : jH} (hP : jOK p d q)  (hd : 1 ≤ dd) {z : Int32 × jH} (K : fA_seed v1 h = some z) (HQ : Q (some (.int z.1)) (176, jRf p d q, z.2)) :
    jCa X dd 166 [.ref 1, .int v1] (176, jRf p d q, h) Q := by
  obtain ⟨dd, rfl⟩ : ∃ d9, dd = d9 + 1 := ⟨dd - 1, by omega⟩
  unfold fA_seed at K
  refine jCa_of (es := jc_166) (pl := [some (.ref 1), some (.int v1)]) (M := jm_166) rfl rfl rfl rfl ?_
  refine jx_next (pc := 0) (pc' := 1) rfl rfl ?_
  refine jx_ifge (pc := 1) rfl (fun hc1 => ?_) (fun hc1 => ?_)
  · replace K := (if_pos hc1).symm.trans K
    refine jx_next (pc := 4) (pc' := 5) rfl rfl ?_
    refine jx_next (pc := 5) (pc' := 6) rfl rfl ?_
    refine jx_callv (pc := 6) (o := 1) (rest := []) rfl ⟨by decide, by decide⟩ rfl jko_1 (Nat.le_of_ble_eq_true rfl) ?_
    obtain ⟨z2, hz_z2, K⟩ := Option.bind_eq_some_iff.mp K
    refine kA_refuse hP (by omega) hz_z2 ?_
    refine jx_next (pc := 9) (pc' := 10) rfl rfl ?_
    obtain rfl := Option.some.inj K
    exact jx_zret (pc := 10) rfl (Or.inl rfl) HQ
  · replace K := (if_neg hc1).symm.trans K
    refine jx_next (pc := 11) (pc' := 12) rfl rfl ?_
    refine jx_next (pc := 12) (pc' := 13) rfl rfl ?_
    refine jx_puti (pc := 13) rfl jko_1 ?_
    refine jx_next (pc := 16) (pc' := 17) rfl rfl ?_
    obtain rfl := Option.some.inj K
    exact jx_zret (pc := 17) rfl (Or.inr rfl) HQ
/-- AndGuest$Formula.readKind(LAndGuest$Reader;)I -/
noncomputable def fFo_readKind  (h : jH) : Option (Int32 × jH) :=
  (Option.bind (fRd_takesWord 1025 h) (fun (z1 : Int32 × jH) =>
  (if z1.1 = 0 then
  (Option.bind (fRd_takesWord 1026 z1.2) (fun (z3 : Int32 × jH) =>
  (if z3.1 = 0 then
  (Option.bind (fRd_takesWord 1027 z3.2) (fun (z5 : Int32 × jH) =>
  (if z5.1 = 0 then
  (Option.bind (fRd_takesWord 1028 z5.2) (fun (z7 : Int32 × jH) =>
  (if z7.1 = 0 then
  (Option.bind (fRd_takesWord 1029 z7.2) (fun (z9 : Int32 × jH) =>
  (if z9.1 = 0 then
  (Option.bind (fRd_wantsWord 1030 z9.2) (fun (z11 : jH) =>
  some (5, z11)))
  else
  some (4, z9.2))))
  else
  some (3, z7.2))))
  else
  some (2, z5.2))))
  else
  some (1, z3.2))))
  else
  some (0, z1.2))))
theorem kFo_readKind {X : jX} {dd : Nat} {p d : Nat} {q : Nat → Nat} {Q : Option Value → jS → Prop}  {h : jH} (hP : jOK p d q)  (hd : 3 ≤ dd) {z : Int32 × jH} (K : fFo_readKind  h = some z) (HQ : Q (some (.int z.1)) (176, jRf p d q, z.2)) :
    jCa X dd 169 [.ref 6] (176, jRf p d q, h) Q := by
  obtain ⟨dd, rfl⟩ : ∃ d9, dd = d9 + 1 := ⟨dd - 1, by omega⟩
  unfold fFo_readKind at K
  refine jCa_of (es := jc_169) (pl := [some (.ref 6)]) (M := jm_169) rfl rfl rfl rfl ?_
  refine jx_next (pc := 0) (pc' := 1) rfl rfl ?_
  refine jx_next (pc := 1) (pc' := 4) rfl rfl ?_
  refine jx_callv (pc := 4) (o := 6) (rest := []) rfl ⟨by decide, by decide⟩ rfl jko_6 (Nat.le_of_ble_eq_true rfl) ?_
  obtain ⟨z1, hz_z1, K⟩ := Option.bind_eq_some_iff.mp K
  refine kRd_takesWord hP (by decide) (by omega) hz_z1 ?_
  refine jx_ifeq (pc := 7) rfl (fun hc2 => ?_) (fun hc2 => ?_)
  · replace K := (if_pos hc2).symm.trans K
    refine jx_next (pc := 12) (pc' := 13) rfl rfl ?_
    refine jx_next (pc := 13) (pc' := 16) rfl rfl ?_
    refine jx_callv (pc := 16) (o := 6) (rest := []) rfl ⟨by decide, by decide⟩ rfl jko_6 (Nat.le_of_ble_eq_true rfl) ?_
    obtain ⟨z3, hz_z3, K⟩ := Option.bind_eq_some_iff.mp K
    refine kRd_takesWord hP (by decide) (by omega) hz_z3 ?_
    refine jx_ifeq (pc := 19) rfl (fun hc4 => ?_) (fun hc4 => ?_)
    · replace K := (if_pos hc4).symm.trans K
      refine jx_next (pc := 24) (pc' := 25) rfl rfl ?_
      refine jx_next (pc := 25) (pc' := 28) rfl rfl ?_
      refine jx_callv (pc := 28) (o := 6) (rest := []) rfl ⟨by decide, by decide⟩ rfl jko_6 (Nat.le_of_ble_eq_true rfl) ?_
      obtain ⟨z5, hz_z5, K⟩ := Option.bind_eq_some_iff.mp K
      refine kRd_takesWord hP (by decide) (by omega) hz_z5 ?_
      refine jx_ifeq (pc := 31) rfl (fun hc6 => ?_) (fun hc6 => ?_)
      · replace K := (if_pos hc6).symm.trans K
        refine jx_next (pc := 36) (pc' := 37) rfl rfl ?_
        refine jx_next (pc := 37) (pc' := 40) rfl rfl ?_
        refine jx_callv (pc := 40) (o := 6) (rest := []) rfl ⟨by decide, by decide⟩ rfl jko_6 (Nat.le_of_ble_eq_true rfl) ?_
        obtain ⟨z7, hz_z7, K⟩ := Option.bind_eq_some_iff.mp K
        refine kRd_takesWord hP (by decide) (by omega) hz_z7 ?_
        refine jx_ifeq (pc := 43) rfl (fun hc8 => ?_) (fun hc8 => ?_)
        · replace K := (if_pos hc8).symm.trans K
          refine jx_next (pc := 48) (pc' := 49) rfl rfl ?_
          refine jx_next (pc := 49) (pc' := 52) rfl rfl ?_
          refine jx_callv (pc := 52) (o := 6) (rest := []) rfl ⟨by decide, by decide⟩ rfl jko_6 (Nat.le_of_ble_eq_true rfl) ?_
          obtain ⟨z9, hz_z9, K⟩ := Option.bind_eq_some_iff.mp K
          refine kRd_takesWord hP (by decide) (by omega) hz_z9 ?_
          refine jx_ifeq (pc := 55) rfl (fun hc10 => ?_) (fun hc10 => ?_)
          · replace K := (if_pos hc10).symm.trans K
            refine jx_next (pc := 60) (pc' := 61) rfl rfl ?_
            refine jx_next (pc := 61) (pc' := 64) rfl rfl ?_
            refine jx_callv (pc := 64) (o := 6) (rest := []) rfl ⟨by decide, by decide⟩ rfl jko_6 (Nat.le_of_ble_eq_true rfl) ?_
            obtain ⟨z11, hz_z11, K⟩ := Option.bind_eq_some_iff.mp K
            refine kRd_wantsWord hP (by decide) (by omega) hz_z11 ?_
            refine jx_next (pc := 67) (pc' := 68) rfl rfl ?_
            obtain rfl := Option.some.inj K
            exact jx_iret (pc := 68) rfl HQ
          · replace K := (if_neg hc10).symm.trans K
            refine jx_next (pc := 58) (pc' := 59) rfl rfl ?_
            obtain rfl := Option.some.inj K
            exact jx_iret (pc := 59) rfl HQ
        · replace K := (if_neg hc8).symm.trans K
          refine jx_next (pc := 46) (pc' := 47) rfl rfl ?_
          obtain rfl := Option.some.inj K
          exact jx_iret (pc := 47) rfl HQ
      · replace K := (if_neg hc6).symm.trans K
        refine jx_next (pc := 34) (pc' := 35) rfl rfl ?_
        obtain rfl := Option.some.inj K
        exact jx_iret (pc := 35) rfl HQ
    · replace K := (if_neg hc4).symm.trans K
      refine jx_next (pc := 22) (pc' := 23) rfl rfl ?_
      obtain rfl := Option.some.inj K
      exact jx_iret (pc := 23) rfl HQ
  · replace K := (if_neg hc2).symm.trans K
    refine jx_next (pc := 10) (pc' := 11) rfl rfl ?_
    obtain rfl := Option.some.inj K
    exact jx_iret (pc := 11) rfl HQ
