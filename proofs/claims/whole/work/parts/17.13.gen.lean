/-- AndGuestModel.mean()I -/
noncomputable def fM_mean  (h : jH) : Option Int32 :=
  (if (h.1 110 48) = 0 then
  some ((-1) : Int32)
  else
  (Option.bind (fM_meanTens h) (fun (z2 : Int32) =>
  some (10 * z2 : Int32))))
theorem kM_mean {X : jX} {dd : Nat} {p d : Nat} {q : Nat → Nat} {Q : Option Value → jS → Prop}  {h : jH}  (hd : 3 ≤ dd) {z : Int32} (K : fM_mean  h = some z) (HQ : Q (some (.int z)) (176, jRf p d q, h)) :
    jCa X dd 259 [.ref 110] (176, jRf p d q, h) Q := by
  obtain ⟨dd, rfl⟩ : ∃ d9, dd = d9 + 1 := ⟨dd - 1, by omega⟩
  unfold fM_mean at K
  refine jCa_of (es := jc_259) (pl := [some (.ref 110)]) (M := jm_259) rfl rfl rfl rfl ?_
  refine jx_next (pc := 0) (pc' := 1) rfl rfl ?_
  refine jx_getz (pc := 1) rfl jko_110 ?_
  refine jx_ifeq (pc := 4) rfl (fun hc1 => ?_) (fun hc1 => ?_)
  · replace K := (if_pos hc1).symm.trans K
    refine jx_next (pc := 17) (pc' := 18) rfl rfl ?_
    obtain rfl := Option.some.inj K
    exact jx_iret (pc := 18) rfl HQ
  · replace K := (if_neg hc1).symm.trans K
    refine jx_next (pc := 7) (pc' := 9) rfl rfl ?_
    refine jx_next (pc := 9) (pc' := 10) rfl rfl ?_
    refine jx_callv (pc := 10) (o := 110) (rest := [.int 10]) rfl ⟨by decide, by decide⟩ rfl jko_110 (Nat.le_of_ble_eq_true rfl) ?_
    obtain ⟨z2, hz_z2, K⟩ := Option.bind_eq_some_iff.mp K
    refine kM_meanTens  (by omega) hz_z2 ?_
    refine jx_next (pc := 13) (pc' := 14) rfl rfl ?_
    refine jx_next (pc := 14) (pc' := 18) rfl rfl ?_
    obtain rfl := Option.some.inj K
    exact jx_iret (pc := 18) rfl HQ
noncomputable def fM_offenceAll_l4_b (v1 : Int32) (v2 : Int32) (h : jH) : Option ((Int32 × Int32 × jH) ⊕ (Int32 × jH)) :=
  (Option.bind (fM_guestMany h) (fun (z1 : Int32) =>
  (if v2 < z1 then
  (Option.bind (fM_offenceOf v2 h) (fun (z3 : Int32 × jH) =>
  some (.inl (v1 + z3.1, v2 + 1, z3.2))))
  else
  some (.inr (v1, h)))))
noncomputable def fM_offenceAll_l4  : (Int32 × Int32 × jH) → Option ((Int32 × Int32 × jH) ⊕ (Int32 × jH)) :=
  fun (s : Int32 × Int32 × jH) => fM_offenceAll_l4_b s.1 s.2.1 s.2.2
theorem kM_offenceAll_l4_b {X : jX} {dd : Nat} {p d : Nat} {q : Nat → Nat} {Q : Option Value → jS → Prop} {v1 : Int32} {v2 : Int32} {h : jH}  (hd : 5 ≤ (dd + 1)) {z : (Int32 × Int32 × jH) ⊕ (Int32 × jH)} (K : fM_offenceAll_l4_b v1 v2 h = some z) (HL : ∀ s : Int32 × Int32 × jH, z = .inl s → jEx X (dd + 1) jc_263 4 [some (.ref 110), some (.int s.1), some (.int s.2.1)] [] (176, jRf p d q, s.2.2) Q) (HE0 : ∀ x : Int32 × jH, z = .inr x → jEx X (dd + 1) jc_263 26 [none, some (.int x.1), none] [] (176, jRf p d q, x.2) Q) :
    jEx X (dd + 1) jc_263 4 [some (.ref 110), some (.int v1), some (.int v2)] [] (176, jRf p d q, h) Q := by
  unfold fM_offenceAll_l4_b at K
  refine jx_next (pc := 4) (pc' := 5) rfl rfl ?_
  refine jx_next (pc := 5) (pc' := 6) rfl rfl ?_
  refine jx_callv (pc := 6) (o := 110) (rest := [.int v2]) rfl ⟨by decide, by decide⟩ rfl jko_110 (Nat.le_of_ble_eq_true rfl) ?_
  obtain ⟨z1, hz_z1, K⟩ := Option.bind_eq_some_iff.mp K
  refine kM_guestMany  (by omega) hz_z1 ?_
  refine jx_icge (pc := 9) rfl (fun hc2 => ?_) (fun hc2 => ?_)
  · replace K := (if_pos hc2).symm.trans K
    refine jx_next (pc := 12) (pc' := 13) rfl rfl ?_
    refine jx_next (pc := 13) (pc' := 14) rfl rfl ?_
    refine jx_next (pc := 14) (pc' := 15) rfl rfl ?_
    refine jx_callv (pc := 15) (o := 110) (rest := [.int v1]) rfl ⟨by decide, by decide⟩ rfl jko_110 (Nat.le_of_ble_eq_true rfl) ?_
    obtain ⟨z3, hz_z3, K⟩ := Option.bind_eq_some_iff.mp K
    refine kM_offenceOf  (by omega) hz_z3 ?_
    refine jx_next (pc := 18) (pc' := 19) rfl rfl ?_
    refine jx_stin (pc := 19) (p2 := [some (.ref 110), some (.int (v1 + z3.1)), some (.int v2)]) rfl (jlt rfl) rfl ?_
    refine jx_inc (pc := 20) (x := v2) (p2 := [some (.ref 110), some (.int (v1 + z3.1)), some (.int (v2 + 1))]) rfl rfl (jlt rfl) rfl ?_
    refine jx_next (pc := 23) (pc' := 4) rfl rfl ?_
    obtain rfl := Option.some.inj K
    refine jx_le (pl' := [some (.ref 110), some (.int (v1 + z3.1)), some (.int (v2 + 1))]) (jle_v (jle_v (jle_v jle_nil))) ?_
    exact HL (v1 + z3.1, v2 + 1, z3.2) rfl
  · replace K := (if_neg hc2).symm.trans K
    obtain rfl := Option.some.inj K
    refine jx_le (pl' := [none, some (.int v1), none]) (jle_n (jle_v (jle_n jle_nil))) ?_
    exact HE0 _ rfl
theorem kM_offenceAll_l4_w {X : jX} {dd : Nat} {p d : Nat} {q : Nat → Nat} {Q : Option Value → jS → Prop}   (hd : 5 ≤ (dd + 1)) {s : Int32 × Int32 × jH} {x : Int32 × jH} (K : jlim (fM_offenceAll_l4 ) s = some x) (HE : jEx X (dd + 1) jc_263 26 [none, some (.int x.1), none] [] (176, jRf p d q, x.2) Q) :
    jEx X (dd + 1) jc_263 4 [some (.ref 110), some (.int s.1), some (.int s.2.1)] [] (176, jRf p d q, s.2.2) Q := by
  refine jlim_ok (G := fun s : Int32 × Int32 × jH => jEx X (dd + 1) jc_263 4 [some (.ref 110), some (.int s.1), some (.int s.2.1)] [] (176, jRf p d q, s.2.2) Q) (GX := fun x : Int32 × jH => jEx X (dd + 1) jc_263 26 [none, some (.int x.1), none] [] (176, jRf p d q, x.2) Q) (fun s z hz HL HE => ?_) K HE
  exact kM_offenceAll_l4_b  hd hz HL HE
/-- AndGuestModel.offenceAll()I -/
noncomputable def fM_offenceAll  (h : jH) : Option (Int32 × jH) :=
  (Option.bind (jlim (fM_offenceAll_l4 ) (0, 0, h)) (fun (x4 : Int32 × jH) =>
  some (x4.1, x4.2)))
theorem kM_offenceAll {X : jX} {dd : Nat} {p d : Nat} {q : Nat → Nat} {Q : Option Value → jS → Prop}  {h : jH}  (hd : 5 ≤ dd) {z : Int32 × jH} (K : fM_offenceAll  h = some z) (HQ : Q (some (.int z.1)) (176, jRf p d q, z.2)) :
    jCa X dd 263 [.ref 110] (176, jRf p d q, h) Q := by
  obtain ⟨dd, rfl⟩ : ∃ d9, dd = d9 + 1 := ⟨dd - 1, by omega⟩
  unfold fM_offenceAll at K
  refine jCa_of (es := jc_263) (pl := [some (.ref 110), none, none]) (M := jm_263) rfl rfl rfl rfl ?_
  refine jx_next (pc := 0) (pc' := 1) rfl rfl ?_
  refine jx_stin (pc := 1) (p2 := [some (.ref 110), some (.int 0), none]) rfl (jlt rfl) rfl ?_
  refine jx_next (pc := 2) (pc' := 3) rfl rfl ?_
  refine jx_stin (pc := 3) (p2 := [some (.ref 110), some (.int 0), some (.int 0)]) rfl (jlt rfl) rfl ?_
  refine jx_le (pl' := [some (.ref 110), some (.int 0), some (.int 0)]) (jle_v (jle_v (jle_v jle_nil))) ?_
  obtain ⟨x4, hz_x4, K⟩ := Option.bind_eq_some_iff.mp K
  refine kM_offenceAll_l4_w  hd hz_x4 ?_
  refine jx_next (pc := 26) (pc' := 27) rfl rfl ?_
  obtain rfl := Option.some.inj K
  exact jx_iret (pc := 27) rfl HQ
noncomputable def fM_beyond_l7_b (v1 : Int32) (v2 : Int64) (v4 : Int32) (h : jH) : Option ((Int64 × Int32) ⊕ (Int64)) :=
  (if 32 < v4 then
  some (.inr v2)
  else
  (if jin v4 33 then
  some (.inl (v2 + ((h.2 150 v4.toNatClampNeg) * ((v4 - v1).toInt64)), v4 + 1))
  else none))
noncomputable def fM_beyond_l7 (v1 : Int32) (h : jH) : (Int64 × Int32) → Option ((Int64 × Int32) ⊕ (Int64)) :=
  fun (s : Int64 × Int32) => fM_beyond_l7_b v1 s.1 s.2 h
theorem kM_beyond_l7_b {X : jX} {dd : Nat} {p d : Nat} {q : Nat → Nat} {Q : Option Value → jS → Prop} {v1 : Int32} {v2 : Int64} {v4 : Int32} {h : jH}  (hd : 0 ≤ dd) {z : (Int64 × Int32) ⊕ (Int64)} (K : fM_beyond_l7_b v1 v2 v4 h = some z) (HL : ∀ s : Int64 × Int32, z = .inl s → jEx X dd jc_264 7 [some (.ref 110), some (.int v1), some (.long s.1), none, some (.int s.2)] [] (176, jRf p d q, h) Q) (HE0 : ∀ x : Int64, z = .inr x → jEx X dd jc_264 36 [none, none, some (.long x), none, none] [] (176, jRf p d q, h) Q) :
    jEx X dd jc_264 7 [some (.ref 110), some (.int v1), some (.long v2), none, some (.int v4)] [] (176, jRf p d q, h) Q := by
  unfold fM_beyond_l7_b at K
  refine jx_next (pc := 7) (pc' := 9) rfl rfl ?_
  refine jx_next (pc := 9) (pc' := 11) rfl rfl ?_
  refine jx_icgt (pc := 11) rfl (fun hc1 => ?_) (fun hc1 => ?_)
  · replace K := (if_pos hc1).symm.trans K
    obtain rfl := Option.some.inj K
    refine jx_le (pl' := [none, none, some (.long v2), none, none]) (jle_n (jle_n (jle_v (jle_n (jle_n jle_nil))))) ?_
    exact HE0 _ rfl
  · replace K := (if_neg hc1).symm.trans K
    refine jx_next (pc := 14) (pc' := 15) rfl rfl ?_
    refine jx_next (pc := 15) (pc' := 16) rfl rfl ?_
    refine jx_getr2 (pc := 16) rfl jko_110 jr_12_52 ?_
    refine jx_next (pc := 19) (pc' := 21) rfl rfl ?_
    obtain ⟨hg2, K⟩ := jguard K
    refine jx_lald2 (pc := 21) rfl jko_150 jno_150 hg2 ?_
    refine jx_next (pc := 22) (pc' := 24) rfl rfl ?_
    refine jx_next (pc := 24) (pc' := 25) rfl rfl ?_
    refine jx_next (pc := 25) (pc' := 26) rfl rfl ?_
    refine jx_next (pc := 26) (pc' := 27) rfl rfl ?_
    refine jx_next (pc := 27) (pc' := 28) rfl rfl ?_
    refine jx_next (pc := 28) (pc' := 29) rfl rfl ?_
    refine jx_stln (pc := 29) (p2 := [some (.ref 110), some (.int v1), some (.long (v2 + ((h.2 150 v4.toNatClampNeg) * ((v4 - v1).toInt64)))), none, some (.int v4)]) rfl (jlt rfl) rfl ?_
    refine jx_inc (pc := 30) (x := v4) (p2 := [some (.ref 110), some (.int v1), some (.long (v2 + ((h.2 150 v4.toNatClampNeg) * ((v4 - v1).toInt64)))), none, some (.int (v4 + 1))]) rfl rfl (jlt rfl) rfl ?_
    refine jx_next (pc := 33) (pc' := 7) rfl rfl ?_
    obtain rfl := Option.some.inj K
    refine jx_le (pl' := [some (.ref 110), some (.int v1), some (.long (v2 + ((h.2 150 v4.toNatClampNeg) * ((v4 - v1).toInt64)))), none, some (.int (v4 + 1))]) (jle_v (jle_v (jle_v (jle_n (jle_v jle_nil))))) ?_
    exact HL (v2 + ((h.2 150 v4.toNatClampNeg) * ((v4 - v1).toInt64)), v4 + 1) rfl
theorem kM_beyond_l7_w {X : jX} {dd : Nat} {p d : Nat} {q : Nat → Nat} {Q : Option Value → jS → Prop} {v1 : Int32} {h : jH}  (hd : 0 ≤ dd) {s : Int64 × Int32} {x : Int64} (K : jlim (fM_beyond_l7 v1 h) s = some x) (HE : jEx X dd jc_264 36 [none, none, some (.long x), none, none] [] (176, jRf p d q, h) Q) :
    jEx X dd jc_264 7 [some (.ref 110), some (.int v1), some (.long s.1), none, some (.int s.2)] [] (176, jRf p d q, h) Q := by
  refine jlim_ok (G := fun s : Int64 × Int32 => jEx X dd jc_264 7 [some (.ref 110), some (.int v1), some (.long s.1), none, some (.int s.2)] [] (176, jRf p d q, h) Q) (GX := fun x : Int64 => jEx X dd jc_264 36 [none, none, some (.long x), none, none] [] (176, jRf p d q, h) Q) (fun s z hz HL HE => ?_) K HE
  exact kM_beyond_l7_b  hd hz HL HE
/-- AndGuestModel.beyond(I)J -/
noncomputable def fM_beyond (v1 : Int32) (h : jH) : Option Int64 :=
  (Option.bind (jlim (fM_beyond_l7  v1 h) (0, v1 + 1)) (fun (x3 : Int64) =>
  some (x3 : Int64)))
theorem kM_beyond {X : jX} {dd : Nat} {p d : Nat} {q : Nat → Nat} {Q : Option Value → jS → Prop} {v1 : Int32} {h : jH}  (hd : 0 ≤ dd) {z : Int64} (K : fM_beyond v1 h = some z) (HQ : Q (some (.long z)) (176, jRf p d q, h)) :
    jCa X dd 264 [.ref 110, .int v1] (176, jRf p d q, h) Q := by
  unfold fM_beyond at K
  refine jCa_of (es := jc_264) (pl := [some (.ref 110), some (.int v1), none, none, none]) (M := jm_264) rfl rfl rfl rfl ?_
  refine jx_next (pc := 0) (pc' := 1) rfl rfl ?_
  refine jx_stln (pc := 1) (p2 := [some (.ref 110), some (.int v1), some (.long 0), none, none]) rfl (jlt rfl) rfl ?_
  refine jx_next (pc := 2) (pc' := 3) rfl rfl ?_
  refine jx_next (pc := 3) (pc' := 4) rfl rfl ?_
  refine jx_next (pc := 4) (pc' := 5) rfl rfl ?_
  refine jx_sti (pc := 5) (p2 := [some (.ref 110), some (.int v1), some (.long 0), none, some (.int (v1 + 1))]) rfl (jlt rfl) rfl ?_
  refine jx_le (pl' := [some (.ref 110), some (.int v1), some (.long 0), none, some (.int (v1 + 1))]) (jle_v (jle_v (jle_v (jle_n (jle_v jle_nil))))) ?_
  obtain ⟨x3, hz_x3, K⟩ := Option.bind_eq_some_iff.mp K
  refine kM_beyond_l7_w  hd hz_x3 ?_
  refine jx_next (pc := 36) (pc' := 37) rfl rfl ?_
  obtain rfl := Option.some.inj K
  exact jx_ret (pc := 37) rfl rfl HQ
/-- AndGuestModel.floored(JJ)J -/
noncomputable def fM_floored (v0 : Int64) (v2 : Int64) : Option Int64 :=
  (if ¬ v2 = 0 then
  (if ¬ v2 = 0 then
  (if (v0 - v0 / v2 * v2) < 0 then
  some ((v0 / v2) - 1 : Int64)
  else
  some (v0 / v2 : Int64))
  else none)
  else none)
theorem kM_floored {X : jX} {dd : Nat} {p d : Nat} {q : Nat → Nat} {Q : Option Value → jS → Prop} {v0 : Int64} {v2 : Int64} {h : jH}  (hd : 0 ≤ dd) {z : Int64} (K : fM_floored v0 v2 = some z) (HQ : Q (some (.long z)) (176, jRf p d q, h)) :
    jCa X dd 265 [.long v0, .long v2] (176, jRf p d q, h) Q := by
  unfold fM_floored at K
  refine jCa_of (es := jc_265) (pl := [some (.long v0), none, some (.long v2), none, none, none]) (M := jm_265) rfl rfl rfl rfl ?_
  refine jx_next (pc := 0) (pc' := 1) rfl rfl ?_
  refine jx_next (pc := 1) (pc' := 2) rfl rfl ?_
  obtain ⟨hg, K⟩ := jguard K
  refine jx_ldiv (pc := 2) rfl hg ?_
  refine jx_stl (pc := 3) (p2 := [some (.long v0), none, some (.long v2), none, some (.long (v0 / v2)), none]) rfl (jlt rfl) rfl ?_
  refine jx_next (pc := 5) (pc' := 6) rfl rfl ?_
  refine jx_next (pc := 6) (pc' := 7) rfl rfl ?_
  obtain ⟨hg, K⟩ := jguard K
  refine jx_lrem (pc := 7) rfl hg ?_
  refine jx_next (pc := 8) (pc' := 9) rfl rfl ?_
  refine jx_lcge (pc := 9) rfl rfl (fun hc1 => ?_) (fun hc1 => ?_)
  · replace K := (if_pos hc1).symm.trans K
    refine jx_next (pc := 13) (pc' := 15) rfl rfl ?_
    refine jx_next (pc := 15) (pc' := 16) rfl rfl ?_
    refine jx_next (pc := 16) (pc' := 17) rfl rfl ?_
    refine jx_next (pc := 17) (pc' := 22) rfl rfl ?_
    obtain rfl := Option.some.inj K
    exact jx_ret (pc := 22) rfl rfl HQ
  · replace K := (if_neg hc1).symm.trans K
    refine jx_next (pc := 20) (pc' := 22) rfl rfl ?_
    obtain rfl := Option.some.inj K
    exact jx_ret (pc := 22) rfl rfl HQ
noncomputable def fM_worthNow_l8_b (v1 : Int64) (v3 : Int32) (h : jH) : Option ((Int64 × Int32) ⊕ (Int64)) :=
  (Option.bind (fM_guestMany h) (fun (z2 : Int32) =>
  (if v3 < z2 then
  (Option.bind (fM_tensOf v3 h) (fun (z4 : Int32) =>
  (Option.bind (fM_joyOf v3 h) (fun (z5 : Int32) =>
  some (.inl (v1 + ((z4 * z5).toInt64), v3 + 1))))))
  else
  some (.inr v1))))
noncomputable def fM_worthNow_l8  (h : jH) : (Int64 × Int32) → Option ((Int64 × Int32) ⊕ (Int64)) :=
  fun (s : Int64 × Int32) => fM_worthNow_l8_b s.1 s.2 h
theorem kM_worthNow_l8_b {X : jX} {dd : Nat} {p d : Nat} {q : Nat → Nat} {Q : Option Value → jS → Prop} {v1 : Int64} {v3 : Int32} {h : jH}  (hd : 6 ≤ (dd + 1)) {z : (Int64 × Int32) ⊕ (Int64)} (K : fM_worthNow_l8_b v1 v3 h = some z) (HL : ∀ s : Int64 × Int32, z = .inl s → jEx X (dd + 1) jc_262 8 [some (.ref 110), some (.long s.1), none, some (.int s.2), none] [] (176, jRf p d q, h) Q) (HE0 : ∀ x : Int64, z = .inr x → jEx X (dd + 1) jc_262 37 [some (.ref 110), some (.long x), none, none, none] [] (176, jRf p d q, h) Q) :
    jEx X (dd + 1) jc_262 8 [some (.ref 110), some (.long v1), none, some (.int v3), none] [] (176, jRf p d q, h) Q := by
  unfold fM_worthNow_l8_b at K
  refine jx_next (pc := 8) (pc' := 9) rfl rfl ?_
  refine jx_next (pc := 9) (pc' := 10) rfl rfl ?_
  refine jx_callv (pc := 10) (o := 110) (rest := [.int v3]) rfl ⟨by decide, by decide⟩ rfl jko_110 (Nat.le_of_ble_eq_true rfl) ?_
  obtain ⟨z2, hz_z2, K⟩ := Option.bind_eq_some_iff.mp K
  refine kM_guestMany  (by omega) hz_z2 ?_
  refine jx_icge (pc := 13) rfl (fun hc3 => ?_) (fun hc3 => ?_)
  · replace K := (if_pos hc3).symm.trans K
    refine jx_next (pc := 16) (pc' := 17) rfl rfl ?_
    refine jx_next (pc := 17) (pc' := 18) rfl rfl ?_
    refine jx_next (pc := 18) (pc' := 19) rfl rfl ?_
    refine jx_callv (pc := 19) (o := 110) (rest := [.long v1]) rfl ⟨by decide, by decide⟩ rfl jko_110 (Nat.le_of_ble_eq_true rfl) ?_
    obtain ⟨z4, hz_z4, K⟩ := Option.bind_eq_some_iff.mp K
    refine kM_tensOf  (by omega) hz_z4 ?_
    refine jx_next (pc := 22) (pc' := 23) rfl rfl ?_
    refine jx_next (pc := 23) (pc' := 24) rfl rfl ?_
    refine jx_callv (pc := 24) (o := 110) (rest := [.int z4, .long v1]) rfl ⟨by decide, by decide⟩ rfl jko_110 (Nat.le_of_ble_eq_true rfl) ?_
    obtain ⟨z5, hz_z5, K⟩ := Option.bind_eq_some_iff.mp K
    refine kM_joyOf  (by omega) hz_z5 ?_
    refine jx_next (pc := 27) (pc' := 28) rfl rfl ?_
    refine jx_next (pc := 28) (pc' := 29) rfl rfl ?_
    refine jx_next (pc := 29) (pc' := 30) rfl rfl ?_
    refine jx_stln (pc := 30) (p2 := [some (.ref 110), some (.long (v1 + ((z4 * z5).toInt64))), none, some (.int v3), none]) rfl (jlt rfl) rfl ?_
    refine jx_inc (pc := 31) (x := v3) (p2 := [some (.ref 110), some (.long (v1 + ((z4 * z5).toInt64))), none, some (.int (v3 + 1)), none]) rfl rfl (jlt rfl) rfl ?_
    refine jx_next (pc := 34) (pc' := 8) rfl rfl ?_
    obtain rfl := Option.some.inj K
    refine jx_le (pl' := [some (.ref 110), some (.long (v1 + ((z4 * z5).toInt64))), none, some (.int (v3 + 1)), none]) (jle_v (jle_v (jle_n (jle_v (jle_n jle_nil))))) ?_
    exact HL (v1 + ((z4 * z5).toInt64), v3 + 1) rfl
  · replace K := (if_neg hc3).symm.trans K
    obtain rfl := Option.some.inj K
    refine jx_le (pl' := [some (.ref 110), some (.long v1), none, none, none]) (jle_v (jle_v (jle_n (jle_n (jle_n jle_nil))))) ?_
    exact HE0 _ rfl
theorem kM_worthNow_l8_w {X : jX} {dd : Nat} {p d : Nat} {q : Nat → Nat} {Q : Option Value → jS → Prop}  {h : jH}  (hd : 6 ≤ (dd + 1)) {s : Int64 × Int32} {x : Int64} (K : jlim (fM_worthNow_l8  h) s = some x) (HE : jEx X (dd + 1) jc_262 37 [some (.ref 110), some (.long x), none, none, none] [] (176, jRf p d q, h) Q) :
    jEx X (dd + 1) jc_262 8 [some (.ref 110), some (.long s.1), none, some (.int s.2), none] [] (176, jRf p d q, h) Q := by
  refine jlim_ok (G := fun s : Int64 × Int32 => jEx X (dd + 1) jc_262 8 [some (.ref 110), some (.long s.1), none, some (.int s.2), none] [] (176, jRf p d q, h) Q) (GX := fun x : Int64 => jEx X (dd + 1) jc_262 37 [some (.ref 110), some (.long x), none, none, none] [] (176, jRf p d q, h) Q) (fun s z hz HL HE => ?_) K HE
  exact kM_worthNow_l8_b  hd hz HL HE
/-- AndGuestModel.worthNow()J -/
noncomputable def fM_worthNow  (h : jH) : Option (Int64 × jH) :=
  (Option.bind (fM_laysHeads h) (fun (z1 : jH) =>
  (Option.bind (jlim (fM_worthNow_l8  z1) (0, 0)) (fun (x6 : Int64) =>
  (Option.bind (fM_offenceAll z1) (fun (z7 : Int32 × jH) =>
  (if jin 5 8 then
  (if jin 4 8 then
  (Option.bind (fM_beyond (z7.2.1 140 (4 : Int32).toNatClampNeg) z7.2) (fun (z10 : Int64) =>
  (Option.bind (fM_floored (((((z1.2 110 53) * 10) * x6) - (((z1.2 110 53) * 100) * z7.1.toInt64)) - ((100 * ((z7.2.1 140 (5 : Int32).toNatClampNeg).toInt64)) * z10)) (z7.2.2 110 53)) (fun (z11 : Int64) =>
  some (z11, z7.2)))))
  else none)
  else none)))))))
theorem kM_worthNow {X : jX} {dd : Nat} {p d : Nat} {q : Nat → Nat} {Q : Option Value → jS → Prop}  {h : jH}  (hd : 6 ≤ dd) {z : Int64 × jH} (K : fM_worthNow  h = some z) (HQ : Q (some (.long z.1)) (176, jRf p d q, z.2)) :
    jCa X dd 262 [.ref 110] (176, jRf p d q, h) Q := by
  obtain ⟨dd, rfl⟩ : ∃ d9, dd = d9 + 1 := ⟨dd - 1, by omega⟩
  unfold fM_worthNow at K
  refine jCa_of (es := jc_262) (pl := [some (.ref 110), none, none, none, none]) (M := jm_262) rfl rfl rfl rfl ?_
  refine jx_next (pc := 0) (pc' := 1) rfl rfl ?_
  refine jx_callv (pc := 1) (o := 110) (rest := []) rfl ⟨by decide, by decide⟩ rfl jko_110 (Nat.le_of_ble_eq_true rfl) ?_
  obtain ⟨z1, hz_z1, K⟩ := Option.bind_eq_some_iff.mp K
  refine kM_laysHeads  (by omega) hz_z1 ?_
  refine jx_next (pc := 4) (pc' := 5) rfl rfl ?_
  refine jx_stln (pc := 5) (p2 := [some (.ref 110), some (.long 0), none, none, none]) rfl (jlt rfl) rfl ?_
  refine jx_next (pc := 6) (pc' := 7) rfl rfl ?_
  refine jx_stin (pc := 7) (p2 := [some (.ref 110), some (.long 0), none, some (.int 0), none]) rfl (jlt rfl) rfl ?_
  refine jx_le (pl' := [some (.ref 110), some (.long 0), none, some (.int 0), none]) (jle_v (jle_v (jle_n (jle_v (jle_n jle_nil))))) ?_
  obtain ⟨x6, hz_x6, K⟩ := Option.bind_eq_some_iff.mp K
  refine kM_worthNow_l8_w  hd hz_x6 ?_
  refine jx_next (pc := 37) (pc' := 38) rfl rfl ?_
  refine jx_getl (pc := 38) rfl jko_110 ?_
  refine jx_next (pc := 41) (pc' := 44) rfl rfl ?_
  refine jx_next (pc := 44) (pc' := 45) rfl rfl ?_
  refine jx_next (pc := 45) (pc' := 46) rfl rfl ?_
  refine jx_next (pc := 46) (pc' := 47) rfl rfl ?_
  refine jx_next (pc := 47) (pc' := 48) rfl rfl ?_
  refine jx_getl (pc := 48) rfl jko_110 ?_
  refine jx_next (pc := 51) (pc' := 54) rfl rfl ?_
  refine jx_next (pc := 54) (pc' := 55) rfl rfl ?_
  refine jx_next (pc := 55) (pc' := 56) rfl rfl ?_
  refine jx_callv (pc := 56) (o := 110) (rest := [.long ((z1.2 110 53) * 100), .long (((z1.2 110 53) * 10) * x6)]) rfl ⟨by decide, by decide⟩ rfl jko_110 (Nat.le_of_ble_eq_true rfl) ?_
  obtain ⟨z7, hz_z7, K⟩ := Option.bind_eq_some_iff.mp K
  refine kM_offenceAll  (by omega) hz_z7 ?_
  refine jx_next (pc := 59) (pc' := 60) rfl rfl ?_
  refine jx_next (pc := 60) (pc' := 61) rfl rfl ?_
  refine jx_next (pc := 61) (pc' := 62) rfl rfl ?_
  refine jx_next (pc := 62) (pc' := 65) rfl rfl ?_
  refine jx_next (pc := 65) (pc' := 66) rfl rfl ?_
  refine jx_getr2 (pc := 66) rfl jko_110 jr_12_38 ?_
  refine jx_next (pc := 69) (pc' := 70) rfl rfl ?_
  obtain ⟨hg8, K⟩ := jguard K
  refine jx_iald2 (pc := 70) rfl jko_140 jno_140 hg8 ?_
  refine jx_next (pc := 71) (pc' := 72) rfl rfl ?_
  refine jx_next (pc := 72) (pc' := 73) rfl rfl ?_
  refine jx_next (pc := 73) (pc' := 74) rfl rfl ?_
  refine jx_next (pc := 74) (pc' := 75) rfl rfl ?_
  refine jx_getr2 (pc := 75) rfl jko_110 jr_12_38 ?_
  refine jx_next (pc := 78) (pc' := 79) rfl rfl ?_
  obtain ⟨hg9, K⟩ := jguard K
  refine jx_iald2 (pc := 79) rfl jko_140 jno_140 hg9 ?_
  refine jx_callv (pc := 80) (o := 110) (rest := [.long (100 * ((z7.2.1 140 (5 : Int32).toNatClampNeg).toInt64)), .long ((((z1.2 110 53) * 10) * x6) - (((z1.2 110 53) * 100) * z7.1.toInt64))]) rfl ⟨by decide, by decide⟩ rfl jko_110 (Nat.le_of_ble_eq_true rfl) ?_
  obtain ⟨z10, hz_z10, K⟩ := Option.bind_eq_some_iff.mp K
  refine kM_beyond  (by omega) hz_z10 ?_
  refine jx_next (pc := 83) (pc' := 84) rfl rfl ?_
  refine jx_next (pc := 84) (pc' := 85) rfl rfl ?_
  refine jx_stln (pc := 85) (p2 := [some (.ref 110), some (.long x6), none, some (.long (((((z1.2 110 53) * 10) * x6) - (((z1.2 110 53) * 100) * z7.1.toInt64)) - ((100 * ((z7.2.1 140 (5 : Int32).toNatClampNeg).toInt64)) * z10))), none]) rfl (jlt rfl) rfl ?_
  refine jx_next (pc := 86) (pc' := 87) rfl rfl ?_
  refine jx_next (pc := 87) (pc' := 88) rfl rfl ?_
  refine jx_getl (pc := 88) rfl jko_110 ?_
  refine jx_calls (pc := 91) rfl (Nat.le_of_ble_eq_true rfl) (Nat.le_of_ble_eq_true rfl) ?_
  obtain ⟨z11, hz_z11, K⟩ := Option.bind_eq_some_iff.mp K
  refine kM_floored  (by omega) hz_z11 ?_
  obtain rfl := Option.some.inj K
  exact jx_ret (pc := 94) rfl rfl HQ
/-- AndGuestModel.worth()J -/
noncomputable def fM_worth  (h : jH) : Option (Int64 × jH) :=
  (if (h.1 110 48) = 0 then
  some ((-1000000000000000), h)
  else
  (Option.bind (fM_worthNow h) (fun (z2 : Int64 × jH) =>
  some (z2.1, z2.2))))
theorem kM_worth {X : jX} {dd : Nat} {p d : Nat} {q : Nat → Nat} {Q : Option Value → jS → Prop}  {h : jH}  (hd : 7 ≤ dd) {z : Int64 × jH} (K : fM_worth  h = some z) (HQ : Q (some (.long z.1)) (176, jRf p d q, z.2)) :
    jCa X dd 261 [.ref 110] (176, jRf p d q, h) Q := by
  obtain ⟨dd, rfl⟩ : ∃ d9, dd = d9 + 1 := ⟨dd - 1, by omega⟩
  unfold fM_worth at K
  refine jCa_of (es := jc_261) (pl := [some (.ref 110)]) (M := jm_261) rfl rfl rfl rfl ?_
  refine jx_next (pc := 0) (pc' := 1) rfl rfl ?_
  refine jx_getz (pc := 1) rfl jko_110 ?_
  refine jx_ifeq (pc := 4) rfl (fun hc1 => ?_) (fun hc1 => ?_)
  · replace K := (if_pos hc1).symm.trans K
    refine jx_next (pc := 14) (pc' := 17) rfl rfl ?_
    obtain rfl := Option.some.inj K
    exact jx_ret (pc := 17) rfl rfl HQ
  · replace K := (if_neg hc1).symm.trans K
    refine jx_next (pc := 7) (pc' := 8) rfl rfl ?_
    refine jx_callv (pc := 8) (o := 110) (rest := []) rfl ⟨by decide, by decide⟩ rfl jko_110 (Nat.le_of_ble_eq_true rfl) ?_
    obtain ⟨z2, hz_z2, K⟩ := Option.bind_eq_some_iff.mp K
    refine kM_worthNow  (by omega) hz_z2 ?_
    refine jx_next (pc := 11) (pc' := 17) rfl rfl ?_
    obtain rfl := Option.some.inj K
    exact jx_ret (pc := 17) rfl rfl HQ
/-- AndGuestModel.allGuests()I -/
noncomputable def fM_allGuests  (h : jH) : Option Int32 :=
  (Option.bind (fM_guestMany h) (fun (z1 : Int32) =>
  some ((1 <<< (z1 &&& 31)) - 1 : Int32)))
theorem kM_allGuests {X : jX} {dd : Nat} {p d : Nat} {q : Nat → Nat} {Q : Option Value → jS → Prop}  {h : jH}  (hd : 1 ≤ dd) {z : Int32} (K : fM_allGuests  h = some z) (HQ : Q (some (.int z)) (176, jRf p d q, h)) :
    jCa X dd 268 [.ref 110] (176, jRf p d q, h) Q := by
  obtain ⟨dd, rfl⟩ : ∃ d9, dd = d9 + 1 := ⟨dd - 1, by omega⟩
  unfold fM_allGuests at K
  refine jCa_of (es := jc_268) (pl := [some (.ref 110)]) (M := jm_268) rfl rfl rfl rfl ?_
  refine jx_next (pc := 0) (pc' := 1) rfl rfl ?_
  refine jx_next (pc := 1) (pc' := 2) rfl rfl ?_
  refine jx_callv (pc := 2) (o := 110) (rest := [.int 1]) rfl ⟨by decide, by decide⟩ rfl jko_110 (Nat.le_of_ble_eq_true rfl) ?_
  obtain ⟨z1, hz_z1, K⟩ := Option.bind_eq_some_iff.mp K
  refine kM_guestMany  (by omega) hz_z1 ?_
  refine jx_next (pc := 5) (pc' := 6) rfl rfl ?_
  refine jx_next (pc := 6) (pc' := 7) rfl rfl ?_
  refine jx_next (pc := 7) (pc' := 8) rfl rfl ?_
  obtain rfl := Option.some.inj K
  exact jx_iret (pc := 8) rfl HQ
noncomputable def fM_isWhole_l2_j39 (v1 : Int32) (v2 : Int32) (v3 : Int32) (h : jH) : Option ((Int32) ⊕ ((Unit) ⊕ (Unit))) :=
  some (.inl (v3 + 1))
theorem kM_isWhole_l2_j39 {X : jX} {dd : Nat} {p d : Nat} {q : Nat → Nat} {Q : Option Value → jS → Prop} {v1 : Int32} {v2 : Int32} {v3 : Int32} {h : jH}  (hd : 1 ≤ (dd + 1)) {z : (Int32) ⊕ ((Unit) ⊕ (Unit))} (K : fM_isWhole_l2_j39 v1 v2 v3 h = some z) (HL : ∀ s : Int32, z = .inl s → jEx X (dd + 1) jc_269 2 [some (.ref 110), some (.int v1), some (.int v2), some (.int s)] [] (176, jRf p d q, h) Q) (HE0 : ∀ x : Unit, z = .inr (.inl x) → jEx X (dd + 1) jc_269 37 [none, none, none, none] [] (176, jRf p d q, h) Q) (HE1 : ∀ x : Unit, z = .inr (.inr x) → jEx X (dd + 1) jc_269 45 [none, none, none, none] [] (176, jRf p d q, h) Q) :
    jEx X (dd + 1) jc_269 39 [some (.ref 110), some (.int v1), some (.int v2), some (.int v3)] [] (176, jRf p d q, h) Q := by
  unfold fM_isWhole_l2_j39 at K
  refine jx_inc (pc := 39) (x := v3) (p2 := [some (.ref 110), some (.int v1), some (.int v2), some (.int (v3 + 1))]) rfl rfl (jlt rfl) rfl ?_
  refine jx_next (pc := 42) (pc' := 2) rfl rfl ?_
  obtain rfl := Option.some.inj K
  refine jx_le (pl' := [some (.ref 110), some (.int v1), some (.int v2), some (.int (v3 + 1))]) (jle_v (jle_v (jle_v (jle_v jle_nil)))) ?_
  exact HL (v3 + 1) rfl
noncomputable def fM_isWhole_l2_b (v1 : Int32) (v2 : Int32) (v3 : Int32) (h : jH) : Option ((Int32) ⊕ ((Unit) ⊕ (Unit))) :=
  (Option.bind (fM_guestMany h) (fun (z1 : Int32) =>
  (if v3 < z1 then
  (if ((v1 >>> (v3 &&& 31)) &&& 1) = 1 then
  (if jin (8 + v3) 16 then
  (if ((h.1 142 (8 + v3).toNatClampNeg) &&& ((v1 ||| v2) ^^^ (-1))) = 0 then
  fM_isWhole_l2_j39  v1 v2 v3 h
  else
  some (.inr (.inl ())))
  else none)
  else
  fM_isWhole_l2_j39  v1 v2 v3 h)
  else
  some (.inr (.inr ())))))
noncomputable def fM_isWhole_l2 (v1 : Int32) (v2 : Int32) (h : jH) : Int32 → Option ((Int32) ⊕ ((Unit) ⊕ (Unit))) :=
  fun (s : Int32) => fM_isWhole_l2_b v1 v2 s h
theorem kM_isWhole_l2_b {X : jX} {dd : Nat} {p d : Nat} {q : Nat → Nat} {Q : Option Value → jS → Prop} {v1 : Int32} {v2 : Int32} {v3 : Int32} {h : jH}  (hd : 1 ≤ (dd + 1)) {z : (Int32) ⊕ ((Unit) ⊕ (Unit))} (K : fM_isWhole_l2_b v1 v2 v3 h = some z) (HL : ∀ s : Int32, z = .inl s → jEx X (dd + 1) jc_269 2 [some (.ref 110), some (.int v1), some (.int v2), some (.int s)] [] (176, jRf p d q, h) Q) (HE0 : ∀ x : Unit, z = .inr (.inl x) → jEx X (dd + 1) jc_269 37 [none, none, none, none] [] (176, jRf p d q, h) Q) (HE1 : ∀ x : Unit, z = .inr (.inr x) → jEx X (dd + 1) jc_269 45 [none, none, none, none] [] (176, jRf p d q, h) Q) :
    jEx X (dd + 1) jc_269 2 [some (.ref 110), some (.int v1), some (.int v2), some (.int v3)] [] (176, jRf p d q, h) Q := by
  unfold fM_isWhole_l2_b at K
  refine jx_next (pc := 2) (pc' := 3) rfl rfl ?_
  refine jx_next (pc := 3) (pc' := 4) rfl rfl ?_
  refine jx_callv (pc := 4) (o := 110) (rest := [.int v3]) rfl ⟨by decide, by decide⟩ rfl jko_110 (Nat.le_of_ble_eq_true rfl) ?_
  obtain ⟨z1, hz_z1, K⟩ := Option.bind_eq_some_iff.mp K
  refine kM_guestMany  (by omega) hz_z1 ?_
  refine jx_icge (pc := 7) rfl (fun hc2 => ?_) (fun hc2 => ?_)
  · replace K := (if_pos hc2).symm.trans K
    refine jx_next (pc := 10) (pc' := 11) rfl rfl ?_
    refine jx_next (pc := 11) (pc' := 12) rfl rfl ?_
    refine jx_next (pc := 12) (pc' := 13) rfl rfl ?_
    refine jx_next (pc := 13) (pc' := 14) rfl rfl ?_
    refine jx_next (pc := 14) (pc' := 15) rfl rfl ?_
    refine jx_next (pc := 15) (pc' := 16) rfl rfl ?_
    refine jx_icne (pc := 16) rfl (fun hc3 => ?_) (fun hc3 => ?_)
    · replace K := (if_pos hc3).symm.trans K
      refine jx_next (pc := 19) (pc' := 20) rfl rfl ?_
      refine jx_getr2 (pc := 20) rfl jko_110 jr_12_40 ?_
      refine jx_next (pc := 23) (pc' := 25) rfl rfl ?_
      refine jx_next (pc := 25) (pc' := 26) rfl rfl ?_
      refine jx_next (pc := 26) (pc' := 27) rfl rfl ?_
      obtain ⟨hg4, K⟩ := jguard K
      refine jx_iald2 (pc := 27) rfl jko_142 jno_142 hg4 ?_
      refine jx_next (pc := 28) (pc' := 29) rfl rfl ?_
      refine jx_next (pc := 29) (pc' := 30) rfl rfl ?_
      refine jx_next (pc := 30) (pc' := 31) rfl rfl ?_
      refine jx_next (pc := 31) (pc' := 32) rfl rfl ?_
      refine jx_next (pc := 32) (pc' := 33) rfl rfl ?_
      refine jx_next (pc := 33) (pc' := 34) rfl rfl ?_
      refine jx_ifeq (pc := 34) rfl (fun hc5 => ?_) (fun hc5 => ?_)
      · replace K := (if_pos hc5).symm.trans K
        refine jx_le (pl' := [some (.ref 110), some (.int v1), some (.int v2), some (.int v3)]) (jle_v (jle_v (jle_v (jle_v jle_nil)))) ?_
        exact kM_isWhole_l2_j39  hd K HL HE0 HE1
      · replace K := (if_neg hc5).symm.trans K
        obtain rfl := Option.some.inj K
        refine jx_le (pl' := [none, none, none, none]) (jle_n (jle_n (jle_n (jle_n jle_nil)))) ?_
        exact HE0 _ rfl
    · replace K := (if_neg hc3).symm.trans K
      refine jx_le (pl' := [some (.ref 110), some (.int v1), some (.int v2), some (.int v3)]) (jle_v (jle_v (jle_v (jle_v jle_nil)))) ?_
      exact kM_isWhole_l2_j39  hd K HL HE0 HE1
  · replace K := (if_neg hc2).symm.trans K
    obtain rfl := Option.some.inj K
    refine jx_le (pl' := [none, none, none, none]) (jle_n (jle_n (jle_n (jle_n jle_nil)))) ?_
    exact HE1 _ rfl
theorem kM_isWhole_l2_w {X : jX} {dd : Nat} {p d : Nat} {q : Nat → Nat} {Q : Option Value → jS → Prop} {v1 : Int32} {v2 : Int32} {h : jH}  (hd : 1 ≤ (dd + 1)) {s : Int32} {x : (Unit) ⊕ (Unit)} (K : jlim (fM_isWhole_l2 v1 v2 h) s = some x) (HE0 : ∀ x0 : Unit, x = .inl x0 → jEx X (dd + 1) jc_269 37 [none, none, none, none] [] (176, jRf p d q, h) Q) (HE1 : ∀ x0 : Unit, x = .inr x0 → jEx X (dd + 1) jc_269 45 [none, none, none, none] [] (176, jRf p d q, h) Q) :
    jEx X (dd + 1) jc_269 2 [some (.ref 110), some (.int v1), some (.int v2), some (.int s)] [] (176, jRf p d q, h) Q := by
  refine jlim_ok (G := fun s : Int32 => jEx X (dd + 1) jc_269 2 [some (.ref 110), some (.int v1), some (.int v2), some (.int s)] [] (176, jRf p d q, h) Q) (GX := fun x : (Unit) ⊕ (Unit) => (∀ x0 : Unit, x = .inl x0 → jEx X (dd + 1) jc_269 37 [none, none, none, none] [] (176, jRf p d q, h) Q) ∧ (∀ x0 : Unit, x = .inr x0 → jEx X (dd + 1) jc_269 45 [none, none, none, none] [] (176, jRf p d q, h) Q)) (fun s z hz HL HE => ?_) K ⟨HE0, HE1⟩
  exact kM_isWhole_l2_b  hd hz HL (fun x hx => (HE _ hx).1 x rfl) (fun x hx => (HE _ hx).2 x rfl)
/-- AndGuestModel.isWhole(II)Z -/
noncomputable def fM_isWhole (v1 : Int32) (v2 : Int32) (h : jH) : Option Int32 :=
  (Option.bind (jlim (fM_isWhole_l2  v1 v2 h) 0) (fun (x6 : (Unit) ⊕ (Unit)) => Sum.elim (fun (y6 : Unit) =>
  some (0 : Int32)) (fun (y6 : Unit) =>
  some (1 : Int32)) x6))
theorem kM_isWhole {X : jX} {dd : Nat} {p d : Nat} {q : Nat → Nat} {Q : Option Value → jS → Prop} {v1 : Int32} {v2 : Int32} {h : jH}  (hd : 1 ≤ dd) {z : Int32} (K : fM_isWhole v1 v2 h = some z) (HQ : Q (some (.int z)) (176, jRf p d q, h)) :
    jCa X dd 269 [.ref 110, .int v1, .int v2] (176, jRf p d q, h) Q := by
  obtain ⟨dd, rfl⟩ : ∃ d9, dd = d9 + 1 := ⟨dd - 1, by omega⟩
  unfold fM_isWhole at K
  refine jCa_of (es := jc_269) (pl := [some (.ref 110), some (.int v1), some (.int v2), none]) (M := jm_269) rfl rfl rfl rfl ?_
  refine jx_next (pc := 0) (pc' := 1) rfl rfl ?_
  refine jx_stin (pc := 1) (p2 := [some (.ref 110), some (.int v1), some (.int v2), some (.int 0)]) rfl (jlt rfl) rfl ?_
  refine jx_le (pl' := [some (.ref 110), some (.int v1), some (.int v2), some (.int 0)]) (jle_v (jle_v (jle_v (jle_v jle_nil)))) ?_
  obtain ⟨x6, hz_x6, K⟩ := Option.bind_eq_some_iff.mp K
  refine kM_isWhole_l2_w  hd hz_x6 (fun y6 hx9 => ?_) (fun y6 hx9 => ?_)
  · subst hx9
    refine jx_next (pc := 37) (pc' := 38) rfl rfl ?_
    obtain rfl := Option.some.inj K
    exact jx_zret (pc := 38) rfl (Or.inl rfl) HQ
  · subst hx9
    refine jx_next (pc := 45) (pc' := 46) rfl rfl ?_
    obtain rfl := Option.some.inj K
    exact jx_zret (pc := 46) rfl (Or.inr rfl) HQ
/-- AndGuestModel.canSend(I)Z -/
noncomputable def fM_canSend (v1 : Int32) (h : jH) : Option Int32 :=
  (Option.bind (fM_allGuests h) (fun (z1 : Int32) =>
  (if (fM_isIn v1.toInt64 0 z1.toInt64) = 0 then
  some (0 : Int32)
  else
  (Option.bind (fM_askedSet h) (fun (z4 : Int32) =>
  (if (v1 &&& z4) = 0 then
  (Option.bind (fM_askedSet h) (fun (z6 : Int32) =>
  (Option.bind (fM_isWhole v1 z6 h) (fun (z7 : Int32) =>
  (if z7 = 0 then
  some (0 : Int32)
  else
  some (1 : Int32))))))
  else
  some (0 : Int32)))))))
theorem kM_canSend {X : jX} {dd : Nat} {p d : Nat} {q : Nat → Nat} {Q : Option Value → jS → Prop} {v1 : Int32} {h : jH}  (hd : 3 ≤ dd) {z : Int32} (K : fM_canSend v1 h = some z) (HQ : Q (some (.int z)) (176, jRf p d q, h)) :
    jCa X dd 267 [.ref 110, .int v1] (176, jRf p d q, h) Q := by
  obtain ⟨dd, rfl⟩ : ∃ d9, dd = d9 + 1 := ⟨dd - 1, by omega⟩
  unfold fM_canSend at K
  refine jCa_of (es := jc_267) (pl := [some (.ref 110), some (.int v1)]) (M := jm_267) rfl rfl rfl rfl ?_
  refine jx_next (pc := 0) (pc' := 1) rfl rfl ?_
  refine jx_next (pc := 1) (pc' := 2) rfl rfl ?_
  refine jx_next (pc := 2) (pc' := 3) rfl rfl ?_
  refine jx_next (pc := 3) (pc' := 4) rfl rfl ?_
  refine jx_callv (pc := 4) (o := 110) (rest := [.long 0, .long v1.toInt64]) rfl ⟨by decide, by decide⟩ rfl jko_110 (Nat.le_of_ble_eq_true rfl) ?_
  obtain ⟨z1, hz_z1, K⟩ := Option.bind_eq_some_iff.mp K
  refine kM_allGuests  (by omega) hz_z1 ?_
  refine jx_next (pc := 7) (pc' := 8) rfl rfl ?_
  refine jx_calls (pc := 8) rfl (Nat.le_of_ble_eq_true rfl) (Nat.le_of_ble_eq_true rfl) ?_
  refine kM_isIn  (by omega) rfl ?_
  refine jx_ifeq (pc := 11) rfl (fun hc3 => ?_) (fun hc3 => ?_)
  · replace K := (if_pos hc3).symm.trans K
    refine jx_next (pc := 39) (pc' := 40) rfl rfl ?_
    obtain rfl := Option.some.inj K
    exact jx_zret (pc := 40) rfl (Or.inl rfl) HQ
  · replace K := (if_neg hc3).symm.trans K
    refine jx_next (pc := 14) (pc' := 15) rfl rfl ?_
    refine jx_next (pc := 15) (pc' := 16) rfl rfl ?_
    refine jx_callv (pc := 16) (o := 110) (rest := [.int v1]) rfl ⟨by decide, by decide⟩ rfl jko_110 (Nat.le_of_ble_eq_true rfl) ?_
    obtain ⟨z4, hz_z4, K⟩ := Option.bind_eq_some_iff.mp K
    refine kM_askedSet  (by omega) hz_z4 ?_
    refine jx_next (pc := 19) (pc' := 20) rfl rfl ?_
    refine jx_ifne (pc := 20) rfl (fun hc5 => ?_) (fun hc5 => ?_)
    · replace K := (if_pos hc5).symm.trans K
      refine jx_next (pc := 23) (pc' := 24) rfl rfl ?_
      refine jx_next (pc := 24) (pc' := 25) rfl rfl ?_
      refine jx_next (pc := 25) (pc' := 26) rfl rfl ?_
      refine jx_callv (pc := 26) (o := 110) (rest := [.int v1, .ref 110]) rfl ⟨by decide, by decide⟩ rfl jko_110 (Nat.le_of_ble_eq_true rfl) ?_
      obtain ⟨z6, hz_z6, K⟩ := Option.bind_eq_some_iff.mp K
      refine kM_askedSet  (by omega) hz_z6 ?_
      refine jx_callv (pc := 29) (o := 110) (rest := []) rfl ⟨by decide, by decide⟩ rfl jko_110 (Nat.le_of_ble_eq_true rfl) ?_
      obtain ⟨z7, hz_z7, K⟩ := Option.bind_eq_some_iff.mp K
      refine kM_isWhole  (by omega) hz_z7 ?_
      refine jx_ifeq (pc := 32) rfl (fun hc8 => ?_) (fun hc8 => ?_)
      · replace K := (if_pos hc8).symm.trans K
        refine jx_next (pc := 39) (pc' := 40) rfl rfl ?_
        obtain rfl := Option.some.inj K
        exact jx_zret (pc := 40) rfl (Or.inl rfl) HQ
      · replace K := (if_neg hc8).symm.trans K
        refine jx_next (pc := 35) (pc' := 36) rfl rfl ?_
        refine jx_next (pc := 36) (pc' := 40) rfl rfl ?_
        obtain rfl := Option.some.inj K
        exact jx_zret (pc := 40) rfl (Or.inr rfl) HQ
    · replace K := (if_neg hc5).symm.trans K
      refine jx_next (pc := 39) (pc' := 40) rfl rfl ?_
      obtain rfl := Option.some.inj K
      exact jx_zret (pc := 40) rfl (Or.inl rfl) HQ
noncomputable def fM_putsAside_l2_b (v1 : Int32) (h : jH) : Option ((Int32 × jH) ⊕ (jH)) :=
  (if v1 < 18 then
  (if jin v1 18 then
  (if jin v1 18 then
  some (.inl (v1 + 1, jhI h 149 v1.toNatClampNeg (h.1 148 v1.toNatClampNeg)))
  else none)
  else none)
  else
  some (.inr h))
noncomputable def fM_putsAside_l2  : (Int32 × jH) → Option ((Int32 × jH) ⊕ (jH)) :=
  fun (s : Int32 × jH) => fM_putsAside_l2_b s.1 s.2
theorem kM_putsAside_l2_b {X : jX} {dd : Nat} {p d : Nat} {q : Nat → Nat} {Q : Option Value → jS → Prop} {v1 : Int32} {h : jH}  (hd : 0 ≤ dd) {z : (Int32 × jH) ⊕ (jH)} (K : fM_putsAside_l2_b v1 h = some z) (HL : ∀ s : Int32 × jH, z = .inl s → jEx X dd jc_271 2 [some (.ref 110), some (.int s.1)] [] (176, jRf p d q, s.2) Q) (HE0 : ∀ x : jH, z = .inr x → jEx X dd jc_271 26 [none, none] [] (176, jRf p d q, x) Q) :
    jEx X dd jc_271 2 [some (.ref 110), some (.int v1)] [] (176, jRf p d q, h) Q := by
  unfold fM_putsAside_l2_b at K
  refine jx_next (pc := 2) (pc' := 3) rfl rfl ?_
  refine jx_next (pc := 3) (pc' := 5) rfl rfl ?_
  refine jx_icge (pc := 5) rfl (fun hc1 => ?_) (fun hc1 => ?_)
  · replace K := (if_pos hc1).symm.trans K
    refine jx_next (pc := 8) (pc' := 9) rfl rfl ?_
    refine jx_getr2 (pc := 9) rfl jko_110 jr_12_51 ?_
    refine jx_next (pc := 12) (pc' := 13) rfl rfl ?_
    refine jx_next (pc := 13) (pc' := 14) rfl rfl ?_
    refine jx_getr2 (pc := 14) rfl jko_110 jr_12_50 ?_
    refine jx_next (pc := 17) (pc' := 18) rfl rfl ?_
    obtain ⟨hg2, K⟩ := jguard K
    refine jx_iald2 (pc := 18) rfl jko_148 jno_148 hg2 ?_
    obtain ⟨hg3, K⟩ := jguard K
    refine jx_iast2 (pc := 19) rfl jko_149 jno_149 hg3 ?_
    refine jx_inc (pc := 20) (x := v1) (p2 := [some (.ref 110), some (.int (v1 + 1))]) rfl rfl (jlt rfl) rfl ?_
    refine jx_next (pc := 23) (pc' := 2) rfl rfl ?_
    obtain rfl := Option.some.inj K
    refine jx_le (pl' := [some (.ref 110), some (.int (v1 + 1))]) (jle_v (jle_v jle_nil)) ?_
    exact HL (v1 + 1, jhI h 149 v1.toNatClampNeg (h.1 148 v1.toNatClampNeg)) rfl
  · replace K := (if_neg hc1).symm.trans K
    obtain rfl := Option.some.inj K
    refine jx_le (pl' := [none, none]) (jle_n (jle_n jle_nil)) ?_
    exact HE0 _ rfl
theorem kM_putsAside_l2_w {X : jX} {dd : Nat} {p d : Nat} {q : Nat → Nat} {Q : Option Value → jS → Prop}   (hd : 0 ≤ dd) {s : Int32 × jH} {x : jH} (K : jlim (fM_putsAside_l2 ) s = some x) (HE : jEx X dd jc_271 26 [none, none] [] (176, jRf p d q, x) Q) :
    jEx X dd jc_271 2 [some (.ref 110), some (.int s.1)] [] (176, jRf p d q, s.2) Q := by
  refine jlim_ok (G := fun s : Int32 × jH => jEx X dd jc_271 2 [some (.ref 110), some (.int s.1)] [] (176, jRf p d q, s.2) Q) (GX := fun x : jH => jEx X dd jc_271 26 [none, none] [] (176, jRf p d q, x) Q) (fun s z hz HL HE => ?_) K HE
  exact kM_putsAside_l2_b  hd hz HL HE
/-- AndGuestModel.putsAside()V -/
noncomputable def fM_putsAside  (h : jH) : Option jH :=
  (Option.bind (jlim (fM_putsAside_l2 ) (0, h)) (fun (x4 : jH) =>
  some x4))
theorem kM_putsAside {X : jX} {dd : Nat} {p d : Nat} {q : Nat → Nat} {Q : Option Value → jS → Prop}  {h : jH}  (hd : 0 ≤ dd) {z : jH} (K : fM_putsAside  h = some z) (HQ : Q none (176, jRf p d q, z)) :
    jCa X dd 271 [.ref 110] (176, jRf p d q, h) Q := by
  unfold fM_putsAside at K
  refine jCa_of (es := jc_271) (pl := [some (.ref 110), none]) (M := jm_271) rfl rfl rfl rfl ?_
  refine jx_next (pc := 0) (pc' := 1) rfl rfl ?_
  refine jx_stin (pc := 1) (p2 := [some (.ref 110), some (.int 0)]) rfl (jlt rfl) rfl ?_
  refine jx_le (pl' := [some (.ref 110), some (.int 0)]) (jle_v (jle_v jle_nil)) ?_
  obtain ⟨x4, hz_x4, K⟩ := Option.bind_eq_some_iff.mp K
  refine kM_putsAside_l2_w  hd hz_x4 ?_
  obtain rfl := Option.some.inj K
  exact jx_ret (pc := 26) rfl rfl HQ
noncomputable def fM_sends_l29_j82 (v1 : Int32) (v2 : Int32) (h : jH) : Option ((Int32 × jH) ⊕ (jH)) :=
  some (.inl (v2 + 1, h))
theorem kM_sends_l29_j82 {X : jX} {dd : Nat} {p d : Nat} {q : Nat → Nat} {Q : Option Value → jS → Prop} {v1 : Int32} {v2 : Int32} {h : jH}  (hd : 1 ≤ (dd + 1)) {z : (Int32 × jH) ⊕ (jH)} (K : fM_sends_l29_j82 v1 v2 h = some z) (HL : ∀ s : Int32 × jH, z = .inl s → jEx X (dd + 1) jc_272 29 [some (.ref 110), some (.int v1), some (.int s.1)] [] (176, jRf p d q, s.2) Q) (HE0 : ∀ x : jH, z = .inr x → jEx X (dd + 1) jc_272 88 [none, none, none] [] (176, jRf p d q, x) Q) :
    jEx X (dd + 1) jc_272 82 [some (.ref 110), some (.int v1), some (.int v2)] [] (176, jRf p d q, h) Q := by
  unfold fM_sends_l29_j82 at K
  refine jx_inc (pc := 82) (x := v2) (p2 := [some (.ref 110), some (.int v1), some (.int (v2 + 1))]) rfl rfl (jlt rfl) rfl ?_
  refine jx_next (pc := 85) (pc' := 29) rfl rfl ?_
  obtain rfl := Option.some.inj K
  refine jx_le (pl' := [some (.ref 110), some (.int v1), some (.int (v2 + 1))]) (jle_v (jle_v (jle_v jle_nil))) ?_
  exact HL (v2 + 1, h) rfl
noncomputable def fM_sends_l29_b (v1 : Int32) (v2 : Int32) (h : jH) : Option ((Int32 × jH) ⊕ (jH)) :=
  (Option.bind (fM_guestMany h) (fun (z6 : Int32) =>
  (if v2 < z6 then
  (if ((v1 >>> (v2 &&& 31)) &&& 1) = 1 then
  (if jin (2 + (2 * v2)) 18 then
  (if jin 0 18 then
  (if jin 1 18 then
  (if jin ((2 + (2 * v2)) + 1) 18 then
  fM_sends_l29_j82  v1 v2 (jhI (jhI h 148 (2 + (2 * v2)).toNatClampNeg 1) 148 ((2 + (2 * v2)) + 1).toNatClampNeg (((jhI h 148 (2 + (2 * v2)).toNatClampNeg 1).1 148 (0 : Int32).toNatClampNeg) - ((jhI h 148 (2 + (2 * v2)).toNatClampNeg 1).1 148 (1 : Int32).toNatClampNeg)))
  else none)
  else none)
  else none)
  else none)
  else
  fM_sends_l29_j82  v1 v2 h)
  else
  some (.inr h))))
noncomputable def fM_sends_l29 (v1 : Int32) : (Int32 × jH) → Option ((Int32 × jH) ⊕ (jH)) :=
  fun (s : Int32 × jH) => fM_sends_l29_b v1 s.1 s.2
theorem kM_sends_l29_b {X : jX} {dd : Nat} {p d : Nat} {q : Nat → Nat} {Q : Option Value → jS → Prop} {v1 : Int32} {v2 : Int32} {h : jH}  (hd : 1 ≤ (dd + 1)) {z : (Int32 × jH) ⊕ (jH)} (K : fM_sends_l29_b v1 v2 h = some z) (HL : ∀ s : Int32 × jH, z = .inl s → jEx X (dd + 1) jc_272 29 [some (.ref 110), some (.int v1), some (.int s.1)] [] (176, jRf p d q, s.2) Q) (HE0 : ∀ x : jH, z = .inr x → jEx X (dd + 1) jc_272 88 [none, none, none] [] (176, jRf p d q, x) Q) :
    jEx X (dd + 1) jc_272 29 [some (.ref 110), some (.int v1), some (.int v2)] [] (176, jRf p d q, h) Q := by
  unfold fM_sends_l29_b at K
  refine jx_next (pc := 29) (pc' := 30) rfl rfl ?_
  refine jx_next (pc := 30) (pc' := 31) rfl rfl ?_
  refine jx_callv (pc := 31) (o := 110) (rest := [.int v2]) rfl ⟨by decide, by decide⟩ rfl jko_110 (Nat.le_of_ble_eq_true rfl) ?_
  obtain ⟨z6, hz_z6, K⟩ := Option.bind_eq_some_iff.mp K
  refine kM_guestMany  (by omega) hz_z6 ?_
  refine jx_icge (pc := 34) rfl (fun hc7 => ?_) (fun hc7 => ?_)
  · replace K := (if_pos hc7).symm.trans K
    refine jx_next (pc := 37) (pc' := 38) rfl rfl ?_
    refine jx_next (pc := 38) (pc' := 39) rfl rfl ?_
    refine jx_next (pc := 39) (pc' := 40) rfl rfl ?_
    refine jx_next (pc := 40) (pc' := 41) rfl rfl ?_
    refine jx_next (pc := 41) (pc' := 42) rfl rfl ?_
    refine jx_next (pc := 42) (pc' := 43) rfl rfl ?_
    refine jx_icne (pc := 43) rfl (fun hc8 => ?_) (fun hc8 => ?_)
    · replace K := (if_pos hc8).symm.trans K
      refine jx_next (pc := 46) (pc' := 47) rfl rfl ?_
      refine jx_getr2 (pc := 47) rfl jko_110 jr_12_50 ?_
      refine jx_next (pc := 50) (pc' := 51) rfl rfl ?_
      refine jx_next (pc := 51) (pc' := 52) rfl rfl ?_
      refine jx_next (pc := 52) (pc' := 53) rfl rfl ?_
      refine jx_next (pc := 53) (pc' := 54) rfl rfl ?_
      refine jx_next (pc := 54) (pc' := 55) rfl rfl ?_
      refine jx_next (pc := 55) (pc' := 56) rfl rfl ?_
      obtain ⟨hg9, K⟩ := jguard K
      refine jx_iast2 (pc := 56) rfl jko_148 jno_148 hg9 ?_
      refine jx_next (pc := 57) (pc' := 58) rfl rfl ?_
      refine jx_getr2 (pc := 58) rfl jko_110 jr_12_50 ?_
      refine jx_next (pc := 61) (pc' := 62) rfl rfl ?_
      refine jx_next (pc := 62) (pc' := 63) rfl rfl ?_
      refine jx_next (pc := 63) (pc' := 64) rfl rfl ?_
      refine jx_next (pc := 64) (pc' := 65) rfl rfl ?_
      refine jx_next (pc := 65) (pc' := 66) rfl rfl ?_
      refine jx_next (pc := 66) (pc' := 67) rfl rfl ?_
      refine jx_next (pc := 67) (pc' := 68) rfl rfl ?_
      refine jx_next (pc := 68) (pc' := 69) rfl rfl ?_
      refine jx_getr2 (pc := 69) rfl jko_110 jr_12_50 ?_
      refine jx_next (pc := 72) (pc' := 73) rfl rfl ?_
      obtain ⟨hg10, K⟩ := jguard K
      refine jx_iald2 (pc := 73) rfl jko_148 jno_148 hg10 ?_
      refine jx_next (pc := 74) (pc' := 75) rfl rfl ?_
      refine jx_getr2 (pc := 75) rfl jko_110 jr_12_50 ?_
      refine jx_next (pc := 78) (pc' := 79) rfl rfl ?_
      obtain ⟨hg11, K⟩ := jguard K
      refine jx_iald2 (pc := 79) rfl jko_148 jno_148 hg11 ?_
      refine jx_next (pc := 80) (pc' := 81) rfl rfl ?_
      obtain ⟨hg12, K⟩ := jguard K
      refine jx_iast2 (pc := 81) rfl jko_148 jno_148 hg12 ?_
      refine jx_le (pl' := [some (.ref 110), some (.int v1), some (.int v2)]) (jle_v (jle_v (jle_v jle_nil))) ?_
      exact kM_sends_l29_j82  hd K HL HE0
    · replace K := (if_neg hc8).symm.trans K
      refine jx_le (pl' := [some (.ref 110), some (.int v1), some (.int v2)]) (jle_v (jle_v (jle_v jle_nil))) ?_
      exact kM_sends_l29_j82  hd K HL HE0
  · replace K := (if_neg hc7).symm.trans K
    obtain rfl := Option.some.inj K
    refine jx_le (pl' := [none, none, none]) (jle_n (jle_n (jle_n jle_nil))) ?_
    exact HE0 _ rfl
theorem kM_sends_l29_w {X : jX} {dd : Nat} {p d : Nat} {q : Nat → Nat} {Q : Option Value → jS → Prop} {v1 : Int32}  (hd : 1 ≤ (dd + 1)) {s : Int32 × jH} {x : jH} (K : jlim (fM_sends_l29 v1) s = some x) (HE : jEx X (dd + 1) jc_272 88 [none, none, none] [] (176, jRf p d q, x) Q) :
    jEx X (dd + 1) jc_272 29 [some (.ref 110), some (.int v1), some (.int s.1)] [] (176, jRf p d q, s.2) Q := by
  refine jlim_ok (G := fun s : Int32 × jH => jEx X (dd + 1) jc_272 29 [some (.ref 110), some (.int v1), some (.int s.1)] [] (176, jRf p d q, s.2) Q) (GX := fun x : jH => jEx X (dd + 1) jc_272 88 [none, none, none] [] (176, jRf p d q, x) Q) (fun s z hz HL HE => ?_) K HE
  exact kM_sends_l29_b  hd hz HL HE
noncomputable def fM_sends_j27 (v1 : Int32) (h : jH) : Option jH :=
  (Option.bind (jlim (fM_sends_l29  v1) (0, h)) (fun (x13 : jH) =>
  some x13))
theorem kM_sends_j27 {X : jX} {dd : Nat} {p d : Nat} {q : Nat → Nat} {Q : Option Value → jS → Prop} {v1 : Int32} {h : jH}  (hd : 1 ≤ (dd + 1)) {z : jH} (K : fM_sends_j27 v1 h = some z) (HQ : Q none (176, jRf p d q, z)) :
    jEx X (dd + 1) jc_272 27 [some (.ref 110), some (.int v1), none] [] (176, jRf p d q, h) Q := by
  unfold fM_sends_j27 at K
  refine jx_next (pc := 27) (pc' := 28) rfl rfl ?_
  refine jx_stin (pc := 28) (p2 := [some (.ref 110), some (.int v1), some (.int 0)]) rfl (jlt rfl) rfl ?_
  refine jx_le (pl' := [some (.ref 110), some (.int v1), some (.int 0)]) (jle_v (jle_v (jle_v jle_nil))) ?_
  obtain ⟨x13, hz_x13, K⟩ := Option.bind_eq_some_iff.mp K
  refine kM_sends_l29_w  hd hz_x13 ?_
  obtain rfl := Option.some.inj K
  exact jx_ret (pc := 88) rfl rfl HQ
/-- AndGuestModel.sends(I)V -/
noncomputable def fM_sends (v1 : Int32) (h : jH) : Option jH :=
  (if v1 = 0 then
  some h
  else
  (if jin 1 18 then
  (if (h.1 148 (1 : Int32).toNatClampNeg) = (-1) then
  (if jin 0 18 then
  (if jin 1 18 then
  fM_sends_j27  v1 (jhI h 148 (1 : Int32).toNatClampNeg (h.1 148 (0 : Int32).toNatClampNeg))
  else none)
  else none)
  else
  fM_sends_j27  v1 h)
  else none))
theorem kM_sends {X : jX} {dd : Nat} {p d : Nat} {q : Nat → Nat} {Q : Option Value → jS → Prop} {v1 : Int32} {h : jH}  (hd : 1 ≤ dd) {z : jH} (K : fM_sends v1 h = some z) (HQ : Q none (176, jRf p d q, z)) :
    jCa X dd 272 [.ref 110, .int v1] (176, jRf p d q, h) Q := by
  obtain ⟨dd, rfl⟩ : ∃ d9, dd = d9 + 1 := ⟨dd - 1, by omega⟩
  unfold fM_sends at K
  refine jCa_of (es := jc_272) (pl := [some (.ref 110), some (.int v1), none]) (M := jm_272) rfl rfl rfl rfl ?_
  refine jx_next (pc := 0) (pc' := 1) rfl rfl ?_
  refine jx_ifne (pc := 1) rfl (fun hc1 => ?_) (fun hc1 => ?_)
  · replace K := (if_pos hc1).symm.trans K
    obtain rfl := Option.some.inj K
    exact jx_ret (pc := 4) rfl rfl HQ
  · replace K := (if_neg hc1).symm.trans K
    refine jx_next (pc := 5) (pc' := 6) rfl rfl ?_
    refine jx_getr2 (pc := 6) rfl jko_110 jr_12_50 ?_
    refine jx_next (pc := 9) (pc' := 10) rfl rfl ?_
    obtain ⟨hg2, K⟩ := jguard K
    refine jx_iald2 (pc := 10) rfl jko_148 jno_148 hg2 ?_
    refine jx_next (pc := 11) (pc' := 12) rfl rfl ?_
    refine jx_icne (pc := 12) rfl (fun hc3 => ?_) (fun hc3 => ?_)
    · replace K := (if_pos hc3).symm.trans K
      refine jx_next (pc := 15) (pc' := 16) rfl rfl ?_
      refine jx_getr2 (pc := 16) rfl jko_110 jr_12_50 ?_
      refine jx_next (pc := 19) (pc' := 20) rfl rfl ?_
      refine jx_next (pc := 20) (pc' := 21) rfl rfl ?_
      refine jx_getr2 (pc := 21) rfl jko_110 jr_12_50 ?_
      refine jx_next (pc := 24) (pc' := 25) rfl rfl ?_
      obtain ⟨hg4, K⟩ := jguard K
      refine jx_iald2 (pc := 25) rfl jko_148 jno_148 hg4 ?_
      obtain ⟨hg5, K⟩ := jguard K
      refine jx_iast2 (pc := 26) rfl jko_148 jno_148 hg5 ?_
      refine jx_le (pl' := [some (.ref 110), some (.int v1), none]) (jle_v (jle_v (jle_n jle_nil))) ?_
      exact kM_sends_j27  hd K HQ
    · replace K := (if_neg hc3).symm.trans K
      refine jx_le (pl' := [some (.ref 110), some (.int v1), none]) (jle_v (jle_v (jle_n jle_nil))) ?_
      exact kM_sends_j27  hd K HQ
noncomputable def fM_takesBack_l2_b (v1 : Int32) (h : jH) : Option ((Int32 × jH) ⊕ (jH)) :=
  (if v1 < 18 then
  (if jin v1 18 then
  (if jin v1 18 then
  some (.inl (v1 + 1, jhI h 148 v1.toNatClampNeg (h.1 149 v1.toNatClampNeg)))
  else none)
  else none)
  else
  some (.inr h))
noncomputable def fM_takesBack_l2  : (Int32 × jH) → Option ((Int32 × jH) ⊕ (jH)) :=
  fun (s : Int32 × jH) => fM_takesBack_l2_b s.1 s.2
theorem kM_takesBack_l2_b {X : jX} {dd : Nat} {p d : Nat} {q : Nat → Nat} {Q : Option Value → jS → Prop} {v1 : Int32} {h : jH}  (hd : 0 ≤ dd) {z : (Int32 × jH) ⊕ (jH)} (K : fM_takesBack_l2_b v1 h = some z) (HL : ∀ s : Int32 × jH, z = .inl s → jEx X dd jc_273 2 [some (.ref 110), some (.int s.1)] [] (176, jRf p d q, s.2) Q) (HE0 : ∀ x : jH, z = .inr x → jEx X dd jc_273 26 [none, none] [] (176, jRf p d q, x) Q) :
    jEx X dd jc_273 2 [some (.ref 110), some (.int v1)] [] (176, jRf p d q, h) Q := by
  unfold fM_takesBack_l2_b at K
  refine jx_next (pc := 2) (pc' := 3) rfl rfl ?_
  refine jx_next (pc := 3) (pc' := 5) rfl rfl ?_
  refine jx_icge (pc := 5) rfl (fun hc1 => ?_) (fun hc1 => ?_)
  · replace K := (if_pos hc1).symm.trans K
    refine jx_next (pc := 8) (pc' := 9) rfl rfl ?_
    refine jx_getr2 (pc := 9) rfl jko_110 jr_12_50 ?_
    refine jx_next (pc := 12) (pc' := 13) rfl rfl ?_
    refine jx_next (pc := 13) (pc' := 14) rfl rfl ?_
    refine jx_getr2 (pc := 14) rfl jko_110 jr_12_51 ?_
    refine jx_next (pc := 17) (pc' := 18) rfl rfl ?_
    obtain ⟨hg2, K⟩ := jguard K
    refine jx_iald2 (pc := 18) rfl jko_149 jno_149 hg2 ?_
    obtain ⟨hg3, K⟩ := jguard K
    refine jx_iast2 (pc := 19) rfl jko_148 jno_148 hg3 ?_
    refine jx_inc (pc := 20) (x := v1) (p2 := [some (.ref 110), some (.int (v1 + 1))]) rfl rfl (jlt rfl) rfl ?_
    refine jx_next (pc := 23) (pc' := 2) rfl rfl ?_
    obtain rfl := Option.some.inj K
    refine jx_le (pl' := [some (.ref 110), some (.int (v1 + 1))]) (jle_v (jle_v jle_nil)) ?_
    exact HL (v1 + 1, jhI h 148 v1.toNatClampNeg (h.1 149 v1.toNatClampNeg)) rfl
  · replace K := (if_neg hc1).symm.trans K
    obtain rfl := Option.some.inj K
    refine jx_le (pl' := [none, none]) (jle_n (jle_n jle_nil)) ?_
    exact HE0 _ rfl
theorem kM_takesBack_l2_w {X : jX} {dd : Nat} {p d : Nat} {q : Nat → Nat} {Q : Option Value → jS → Prop}   (hd : 0 ≤ dd) {s : Int32 × jH} {x : jH} (K : jlim (fM_takesBack_l2 ) s = some x) (HE : jEx X dd jc_273 26 [none, none] [] (176, jRf p d q, x) Q) :
    jEx X dd jc_273 2 [some (.ref 110), some (.int s.1)] [] (176, jRf p d q, s.2) Q := by
  refine jlim_ok (G := fun s : Int32 × jH => jEx X dd jc_273 2 [some (.ref 110), some (.int s.1)] [] (176, jRf p d q, s.2) Q) (GX := fun x : jH => jEx X dd jc_273 26 [none, none] [] (176, jRf p d q, x) Q) (fun s z hz HL HE => ?_) K HE
  exact kM_takesBack_l2_b  hd hz HL HE
/-- AndGuestModel.takesBack()V -/
noncomputable def fM_takesBack  (h : jH) : Option jH :=
  (Option.bind (jlim (fM_takesBack_l2 ) (0, h)) (fun (x4 : jH) =>
  some x4))
theorem kM_takesBack {X : jX} {dd : Nat} {p d : Nat} {q : Nat → Nat} {Q : Option Value → jS → Prop}  {h : jH}  (hd : 0 ≤ dd) {z : jH} (K : fM_takesBack  h = some z) (HQ : Q none (176, jRf p d q, z)) :
    jCa X dd 273 [.ref 110] (176, jRf p d q, h) Q := by
  unfold fM_takesBack at K
  refine jCa_of (es := jc_273) (pl := [some (.ref 110), none]) (M := jm_273) rfl rfl rfl rfl ?_
  refine jx_next (pc := 0) (pc' := 1) rfl rfl ?_
  refine jx_stin (pc := 1) (p2 := [some (.ref 110), some (.int 0)]) rfl (jlt rfl) rfl ?_
  refine jx_le (pl' := [some (.ref 110), some (.int 0)]) (jle_v (jle_v jle_nil)) ?_
  obtain ⟨x4, hz_x4, K⟩ := Option.bind_eq_some_iff.mp K
  refine kM_takesBack_l2_w  hd hz_x4 ?_
  obtain rfl := Option.some.inj K
  exact jx_ret (pc := 26) rfl rfl HQ
/-- AndGuestModel.worthBy(I)J -/
noncomputable def fM_worthBy (v1 : Int32) (h : jH) : Option (Int64 × jH) :=
  (Option.bind (fM_putsAside h) (fun (z1 : jH) =>
  (Option.bind (fM_sends v1 z1) (fun (z2 : jH) =>
  (Option.bind (fM_worthNow z2) (fun (z3 : Int64 × jH) =>
  (Option.bind (fM_takesBack z3.2) (fun (z4 : jH) =>
  some (z3.1, z4)))))))))
theorem kM_worthBy {X : jX} {dd : Nat} {p d : Nat} {q : Nat → Nat} {Q : Option Value → jS → Prop} {v1 : Int32} {h : jH}  (hd : 7 ≤ dd) {z : Int64 × jH} (K : fM_worthBy v1 h = some z) (HQ : Q (some (.long z.1)) (176, jRf p d q, z.2)) :
    jCa X dd 270 [.ref 110, .int v1] (176, jRf p d q, h) Q := by
  obtain ⟨dd, rfl⟩ : ∃ d9, dd = d9 + 1 := ⟨dd - 1, by omega⟩
  unfold fM_worthBy at K
  refine jCa_of (es := jc_270) (pl := [some (.ref 110), some (.int v1), none, none]) (M := jm_270) rfl rfl rfl rfl ?_
  refine jx_next (pc := 0) (pc' := 1) rfl rfl ?_
  refine jx_callv (pc := 1) (o := 110) (rest := []) rfl ⟨by decide, by decide⟩ rfl jko_110 (Nat.le_of_ble_eq_true rfl) ?_
  obtain ⟨z1, hz_z1, K⟩ := Option.bind_eq_some_iff.mp K
  refine kM_putsAside  (by omega) hz_z1 ?_
  refine jx_next (pc := 4) (pc' := 5) rfl rfl ?_
  refine jx_next (pc := 5) (pc' := 6) rfl rfl ?_
  refine jx_callv (pc := 6) (o := 110) (rest := []) rfl ⟨by decide, by decide⟩ rfl jko_110 (Nat.le_of_ble_eq_true rfl) ?_
  obtain ⟨z2, hz_z2, K⟩ := Option.bind_eq_some_iff.mp K
  refine kM_sends  (by omega) hz_z2 ?_
  refine jx_next (pc := 9) (pc' := 10) rfl rfl ?_
  refine jx_callv (pc := 10) (o := 110) (rest := []) rfl ⟨by decide, by decide⟩ rfl jko_110 (Nat.le_of_ble_eq_true rfl) ?_
  obtain ⟨z3, hz_z3, K⟩ := Option.bind_eq_some_iff.mp K
  refine kM_worthNow  (by omega) hz_z3 ?_
  refine jx_stln (pc := 13) (p2 := [some (.ref 110), some (.int v1), some (.long z3.1), none]) rfl (jlt rfl) rfl ?_
  refine jx_next (pc := 14) (pc' := 15) rfl rfl ?_
  refine jx_callv (pc := 15) (o := 110) (rest := []) rfl ⟨by decide, by decide⟩ rfl jko_110 (Nat.le_of_ble_eq_true rfl) ?_
  obtain ⟨z4, hz_z4, K⟩ := Option.bind_eq_some_iff.mp K
  refine kM_takesBack  (by omega) hz_z4 ?_
  refine jx_next (pc := 18) (pc' := 19) rfl rfl ?_
  obtain rfl := Option.some.inj K
  exact jx_ret (pc := 19) rfl rfl HQ
/-- AndGuestModel.would(I)J -/
noncomputable def fM_would (v1 : Int32) (h : jH) : Option (Int64 × jH) :=
  (if (h.1 110 48) = 0 then
  some ((-1000000000000000), h)
  else
  (Option.bind (fM_canSend v1 h) (fun (z2 : Int32) =>
  (if z2 = 0 then
  some ((-1000000000000000), h)
  else
  (Option.bind (fM_worthBy v1 h) (fun (z4 : Int64 × jH) =>
  some (z4.1, z4.2)))))))
theorem kM_would {X : jX} {dd : Nat} {p d : Nat} {q : Nat → Nat} {Q : Option Value → jS → Prop} {v1 : Int32} {h : jH}  (hd : 8 ≤ dd) {z : Int64 × jH} (K : fM_would v1 h = some z) (HQ : Q (some (.long z.1)) (176, jRf p d q, z.2)) :
    jCa X dd 266 [.ref 110, .int v1] (176, jRf p d q, h) Q := by
  obtain ⟨dd, rfl⟩ : ∃ d9, dd = d9 + 1 := ⟨dd - 1, by omega⟩
  unfold fM_would at K
  refine jCa_of (es := jc_266) (pl := [some (.ref 110), some (.int v1)]) (M := jm_266) rfl rfl rfl rfl ?_
  refine jx_next (pc := 0) (pc' := 1) rfl rfl ?_
  refine jx_getz (pc := 1) rfl jko_110 ?_
  refine jx_ifeq (pc := 4) rfl (fun hc1 => ?_) (fun hc1 => ?_)
  · replace K := (if_pos hc1).symm.trans K
    refine jx_next (pc := 23) (pc' := 26) rfl rfl ?_
    obtain rfl := Option.some.inj K
    exact jx_ret (pc := 26) rfl rfl HQ
  · replace K := (if_neg hc1).symm.trans K
    refine jx_next (pc := 7) (pc' := 8) rfl rfl ?_
    refine jx_next (pc := 8) (pc' := 9) rfl rfl ?_
    refine jx_callv (pc := 9) (o := 110) (rest := []) rfl ⟨by decide, by decide⟩ rfl jko_110 (Nat.le_of_ble_eq_true rfl) ?_
    obtain ⟨z2, hz_z2, K⟩ := Option.bind_eq_some_iff.mp K
    refine kM_canSend  (by omega) hz_z2 ?_
    refine jx_ifeq (pc := 12) rfl (fun hc3 => ?_) (fun hc3 => ?_)
    · replace K := (if_pos hc3).symm.trans K
      refine jx_next (pc := 23) (pc' := 26) rfl rfl ?_
      obtain rfl := Option.some.inj K
      exact jx_ret (pc := 26) rfl rfl HQ
    · replace K := (if_neg hc3).symm.trans K
      refine jx_next (pc := 15) (pc' := 16) rfl rfl ?_
      refine jx_next (pc := 16) (pc' := 17) rfl rfl ?_
      refine jx_callv (pc := 17) (o := 110) (rest := []) rfl ⟨by decide, by decide⟩ rfl jko_110 (Nat.le_of_ble_eq_true rfl) ?_
      obtain ⟨z4, hz_z4, K⟩ := Option.bind_eq_some_iff.mp K
      refine kM_worthBy  (by omega) hz_z4 ?_
      refine jx_next (pc := 20) (pc' := 26) rfl rfl ?_
      obtain rfl := Option.some.inj K
      exact jx_ret (pc := 26) rfl rfl HQ
/-- AndGuestModel.offence()I -/
noncomputable def fM_offence  (h : jH) : Option (Int32 × jH) :=
  (if (h.1 110 48) = 0 then
  some ((-1), h)
  else
  (Option.bind (fM_offenceAll h) (fun (z2 : Int32 × jH) =>
  some (z2.1, z2.2))))
theorem kM_offence {X : jX} {dd : Nat} {p d : Nat} {q : Nat → Nat} {Q : Option Value → jS → Prop}  {h : jH}  (hd : 6 ≤ dd) {z : Int32 × jH} (K : fM_offence  h = some z) (HQ : Q (some (.int z.1)) (176, jRf p d q, z.2)) :
    jCa X dd 274 [.ref 110] (176, jRf p d q, h) Q := by
  obtain ⟨dd, rfl⟩ : ∃ d9, dd = d9 + 1 := ⟨dd - 1, by omega⟩
  unfold fM_offence at K
  refine jCa_of (es := jc_274) (pl := [some (.ref 110)]) (M := jm_274) rfl rfl rfl rfl ?_
  refine jx_next (pc := 0) (pc' := 1) rfl rfl ?_
  refine jx_getz (pc := 1) rfl jko_110 ?_
  refine jx_ifeq (pc := 4) rfl (fun hc1 => ?_) (fun hc1 => ?_)
  · replace K := (if_pos hc1).symm.trans K
    refine jx_next (pc := 14) (pc' := 15) rfl rfl ?_
    obtain rfl := Option.some.inj K
    exact jx_iret (pc := 15) rfl HQ
  · replace K := (if_neg hc1).symm.trans K
    refine jx_next (pc := 7) (pc' := 8) rfl rfl ?_
    refine jx_callv (pc := 8) (o := 110) (rest := []) rfl ⟨by decide, by decide⟩ rfl jko_110 (Nat.le_of_ble_eq_true rfl) ?_
    obtain ⟨z2, hz_z2, K⟩ := Option.bind_eq_some_iff.mp K
    refine kM_offenceAll  (by omega) hz_z2 ?_
    refine jx_next (pc := 11) (pc' := 15) rfl rfl ?_
    obtain rfl := Option.some.inj K
    exact jx_iret (pc := 15) rfl HQ
noncomputable def fM_bestBut_l11_j82 (v1 : Int32) (v2 : Int32) (v3 : Int64) (v5 : Int32) (h : jH) : Option ((Int32 × Int64 × Int32 × jH) ⊕ (Int32 × jH)) :=
  some (.inl (v2, v3, v5 + 1, h))
theorem kM_bestBut_l11_j82 {X : jX} {dd : Nat} {p d : Nat} {q : Nat → Nat} {Q : Option Value → jS → Prop} {v1 : Int32} {v2 : Int32} {v3 : Int64} {v5 : Int32} {h : jH}  (hd : 8 ≤ (dd + 1)) {z : (Int32 × Int64 × Int32 × jH) ⊕ (Int32 × jH)} (K : fM_bestBut_l11_j82 v1 v2 v3 v5 h = some z) (HL : ∀ s : Int32 × Int64 × Int32 × jH, z = .inl s → jEx X (dd + 1) jc_276 11 [some (.ref 110), some (.int v1), some (.int s.1), some (.long s.2.1), none, some (.int s.2.2.1), none, none] [] (176, jRf p d q, s.2.2.2) Q) (HE0 : ∀ x : Int32 × jH, z = .inr x → jEx X (dd + 1) jc_276 88 [none, none, some (.int x.1), none, none, none, none, none] [] (176, jRf p d q, x.2) Q) :
    jEx X (dd + 1) jc_276 82 [some (.ref 110), some (.int v1), some (.int v2), some (.long v3), none, some (.int v5), none, none] [] (176, jRf p d q, h) Q := by
  unfold fM_bestBut_l11_j82 at K
  refine jx_inc (pc := 82) (x := v5) (p2 := [some (.ref 110), some (.int v1), some (.int v2), some (.long v3), none, some (.int (v5 + 1)), none, none]) rfl rfl (jlt rfl) rfl ?_
  refine jx_next (pc := 85) (pc' := 11) rfl rfl ?_
  obtain rfl := Option.some.inj K
  refine jx_le (pl' := [some (.ref 110), some (.int v1), some (.int v2), some (.long v3), none, some (.int (v5 + 1)), none, none]) (jle_v (jle_v (jle_v (jle_v (jle_n (jle_v (jle_n (jle_n jle_nil)))))))) ?_
  exact HL (v2, v3, v5 + 1, h) rfl
noncomputable def fM_bestBut_l11_j76 (v1 : Int32) (v5 : Int32) (v6 : Int64) (h : jH) : Option ((Int32 × Int64 × Int32 × jH) ⊕ (Int32 × jH)) :=
  fM_bestBut_l11_j82  v1 v5 v6 v5 h
theorem kM_bestBut_l11_j76 {X : jX} {dd : Nat} {p d : Nat} {q : Nat → Nat} {Q : Option Value → jS → Prop} {v1 : Int32} {v5 : Int32} {v6 : Int64} {h : jH}  (hd : 8 ≤ (dd + 1)) {z : (Int32 × Int64 × Int32 × jH) ⊕ (Int32 × jH)} (K : fM_bestBut_l11_j76 v1 v5 v6 h = some z) (HL : ∀ s : Int32 × Int64 × Int32 × jH, z = .inl s → jEx X (dd + 1) jc_276 11 [some (.ref 110), some (.int v1), some (.int s.1), some (.long s.2.1), none, some (.int s.2.2.1), none, none] [] (176, jRf p d q, s.2.2.2) Q) (HE0 : ∀ x : Int32 × jH, z = .inr x → jEx X (dd + 1) jc_276 88 [none, none, some (.int x.1), none, none, none, none, none] [] (176, jRf p d q, x.2) Q) :
    jEx X (dd + 1) jc_276 76 [some (.ref 110), some (.int v1), none, none, none, some (.int v5), some (.long v6), none] [] (176, jRf p d q, h) Q := by
  unfold fM_bestBut_l11_j76 at K
  refine jx_next (pc := 76) (pc' := 78) rfl rfl ?_
  refine jx_stin (pc := 78) (p2 := [some (.ref 110), some (.int v1), some (.int v5), none, none, some (.int v5), some (.long v6), none]) rfl (jlt rfl) rfl ?_
  refine jx_next (pc := 79) (pc' := 81) rfl rfl ?_
  refine jx_stln (pc := 81) (p2 := [some (.ref 110), some (.int v1), some (.int v5), some (.long v6), none, some (.int v5), some (.long v6), none]) rfl (jlt rfl) rfl ?_
  refine jx_le (pl' := [some (.ref 110), some (.int v1), some (.int v5), some (.long v6), none, some (.int v5), none, none]) (jle_v (jle_v (jle_v (jle_v (jle_n (jle_v (jle_n (jle_n jle_nil)))))))) ?_
  exact kM_bestBut_l11_j82  hd K HL HE0
noncomputable def fM_bestBut_l11_b (v1 : Int32) (v2 : Int32) (v3 : Int64) (v5 : Int32) (h : jH) : Option ((Int32 × Int64 × Int32 × jH) ⊕ (Int32 × jH)) :=
  (Option.bind (fM_allGuests h) (fun (z2 : Int32) =>
  (if z2 < v5 then
  some (.inr (v2, h))
  else
  (if (v5 &&& v1) = 0 then
  (Option.bind (fM_canSend v5 h) (fun (z5 : Int32) =>
  (if z5 = 0 then
  fM_bestBut_l11_j82  v1 v2 v3 v5 h
  else
  (Option.bind (fM_worthBy v5 h) (fun (z7 : Int64 × jH) =>
  (if z7.1 < v3 then
  fM_bestBut_l11_j82  v1 v2 v3 v5 z7.2
  else
  (if z7.1 = v3 then
  (Option.bind (fM_bits v5 z7.2) (fun (z10 : Int32) =>
  (Option.bind (fM_bits v2 z7.2) (fun (z11 : Int32) =>
  (if z10 < z11 then
  fM_bestBut_l11_j76  v1 v5 z7.1 z7.2
  else
  fM_bestBut_l11_j82  v1 v2 v3 v5 z7.2)))))
  else
  fM_bestBut_l11_j76  v1 v5 z7.1 z7.2)))))))
  else
  fM_bestBut_l11_j82  v1 v2 v3 v5 h))))
noncomputable def fM_bestBut_l11 (v1 : Int32) : (Int32 × Int64 × Int32 × jH) → Option ((Int32 × Int64 × Int32 × jH) ⊕ (Int32 × jH)) :=
  fun (s : Int32 × Int64 × Int32 × jH) => fM_bestBut_l11_b v1 s.1 s.2.1 s.2.2.1 s.2.2.2
theorem kM_bestBut_l11_b {X : jX} {dd : Nat} {p d : Nat} {q : Nat → Nat} {Q : Option Value → jS → Prop} {v1 : Int32} {v2 : Int32} {v3 : Int64} {v5 : Int32} {h : jH}  (hd : 8 ≤ (dd + 1)) {z : (Int32 × Int64 × Int32 × jH) ⊕ (Int32 × jH)} (K : fM_bestBut_l11_b v1 v2 v3 v5 h = some z) (HL : ∀ s : Int32 × Int64 × Int32 × jH, z = .inl s → jEx X (dd + 1) jc_276 11 [some (.ref 110), some (.int v1), some (.int s.1), some (.long s.2.1), none, some (.int s.2.2.1), none, none] [] (176, jRf p d q, s.2.2.2) Q) (HE0 : ∀ x : Int32 × jH, z = .inr x → jEx X (dd + 1) jc_276 88 [none, none, some (.int x.1), none, none, none, none, none] [] (176, jRf p d q, x.2) Q) :
    jEx X (dd + 1) jc_276 11 [some (.ref 110), some (.int v1), some (.int v2), some (.long v3), none, some (.int v5), none, none] [] (176, jRf p d q, h) Q := by
  unfold fM_bestBut_l11_b at K
  refine jx_next (pc := 11) (pc' := 13) rfl rfl ?_
  refine jx_next (pc := 13) (pc' := 14) rfl rfl ?_
  refine jx_callv (pc := 14) (o := 110) (rest := [.int v5]) rfl ⟨by decide, by decide⟩ rfl jko_110 (Nat.le_of_ble_eq_true rfl) ?_
  obtain ⟨z2, hz_z2, K⟩ := Option.bind_eq_some_iff.mp K
  refine kM_allGuests  (by omega) hz_z2 ?_
  refine jx_icgt (pc := 17) rfl (fun hc3 => ?_) (fun hc3 => ?_)
  · replace K := (if_pos hc3).symm.trans K
    obtain rfl := Option.some.inj K
    refine jx_le (pl' := [none, none, some (.int v2), none, none, none, none, none]) (jle_n (jle_n (jle_v (jle_n (jle_n (jle_n (jle_n (jle_n jle_nil)))))))) ?_
    exact HE0 _ rfl
  · replace K := (if_neg hc3).symm.trans K
    refine jx_next (pc := 20) (pc' := 22) rfl rfl ?_
    refine jx_next (pc := 22) (pc' := 23) rfl rfl ?_
    refine jx_next (pc := 23) (pc' := 24) rfl rfl ?_
    refine jx_ifne (pc := 24) rfl (fun hc4 => ?_) (fun hc4 => ?_)
    · replace K := (if_pos hc4).symm.trans K
      refine jx_next (pc := 27) (pc' := 28) rfl rfl ?_
      refine jx_next (pc := 28) (pc' := 30) rfl rfl ?_
      refine jx_callv (pc := 30) (o := 110) (rest := []) rfl ⟨by decide, by decide⟩ rfl jko_110 (Nat.le_of_ble_eq_true rfl) ?_
      obtain ⟨z5, hz_z5, K⟩ := Option.bind_eq_some_iff.mp K
      refine kM_canSend  (by omega) hz_z5 ?_
      refine jx_ifne (pc := 33) rfl (fun hc6 => ?_) (fun hc6 => ?_)
      · replace K := (if_pos hc6).symm.trans K
        refine jx_next (pc := 36) (pc' := 82) rfl rfl ?_
        refine jx_le (pl' := [some (.ref 110), some (.int v1), some (.int v2), some (.long v3), none, some (.int v5), none, none]) (jle_v (jle_v (jle_v (jle_v (jle_n (jle_v (jle_n (jle_n jle_nil)))))))) ?_
        exact kM_bestBut_l11_j82  hd K HL HE0
      · replace K := (if_neg hc6).symm.trans K
        refine jx_next (pc := 39) (pc' := 40) rfl rfl ?_
        refine jx_next (pc := 40) (pc' := 42) rfl rfl ?_
        refine jx_callv (pc := 42) (o := 110) (rest := []) rfl ⟨by decide, by decide⟩ rfl jko_110 (Nat.le_of_ble_eq_true rfl) ?_
        obtain ⟨z7, hz_z7, K⟩ := Option.bind_eq_some_iff.mp K
        refine kM_worthBy  (by omega) hz_z7 ?_
        refine jx_stl (pc := 45) (p2 := [some (.ref 110), some (.int v1), some (.int v2), some (.long v3), none, some (.int v5), some (.long z7.1), none]) rfl (jlt rfl) rfl ?_
        refine jx_next (pc := 47) (pc' := 49) rfl rfl ?_
        refine jx_next (pc := 49) (pc' := 50) rfl rfl ?_
        refine jx_lclt (pc := 50) rfl rfl (fun hc8 => ?_) (fun hc8 => ?_)
        · replace K := (if_pos hc8).symm.trans K
          refine jx_le (pl' := [some (.ref 110), some (.int v1), some (.int v2), some (.long v3), none, some (.int v5), none, none]) (jle_v (jle_v (jle_v (jle_v (jle_n (jle_v (jle_n (jle_n jle_nil)))))))) ?_
          exact kM_bestBut_l11_j82  hd K HL HE0
        · replace K := (if_neg hc8).symm.trans K
          refine jx_next (pc := 54) (pc' := 56) rfl rfl ?_
          refine jx_next (pc := 56) (pc' := 57) rfl rfl ?_
          refine jx_lcne (pc := 57) rfl rfl (fun hc9 => ?_) (fun hc9 => ?_)
          · replace K := (if_pos hc9).symm.trans K
            refine jx_next (pc := 61) (pc' := 63) rfl rfl ?_
            refine jx_calls (pc := 63) rfl (Nat.le_of_ble_eq_true rfl) (Nat.le_of_ble_eq_true rfl) ?_
            obtain ⟨z10, hz_z10, K⟩ := Option.bind_eq_some_iff.mp K
            refine kM_bits  (by omega) hz_z10 ?_
            refine jx_next (pc := 66) (pc' := 67) rfl rfl ?_
            refine jx_calls (pc := 67) rfl (Nat.le_of_ble_eq_true rfl) (Nat.le_of_ble_eq_true rfl) ?_
            obtain ⟨z11, hz_z11, K⟩ := Option.bind_eq_some_iff.mp K
            refine kM_bits  (by omega) hz_z11 ?_
            refine jx_iclt (pc := 70) rfl (fun hc12 => ?_) (fun hc12 => ?_)
            · replace K := (if_pos hc12).symm.trans K
              refine jx_le (pl' := [some (.ref 110), some (.int v1), none, none, none, some (.int v5), some (.long z7.1), none]) (jle_v (jle_v (jle_n (jle_n (jle_n (jle_v (jle_v (jle_n jle_nil)))))))) ?_
              exact kM_bestBut_l11_j76  hd K HL HE0
            · replace K := (if_neg hc12).symm.trans K
              refine jx_next (pc := 73) (pc' := 82) rfl rfl ?_
              refine jx_le (pl' := [some (.ref 110), some (.int v1), some (.int v2), some (.long v3), none, some (.int v5), none, none]) (jle_v (jle_v (jle_v (jle_v (jle_n (jle_v (jle_n (jle_n jle_nil)))))))) ?_
              exact kM_bestBut_l11_j82  hd K HL HE0
          · replace K := (if_neg hc9).symm.trans K
            refine jx_le (pl' := [some (.ref 110), some (.int v1), none, none, none, some (.int v5), some (.long z7.1), none]) (jle_v (jle_v (jle_n (jle_n (jle_n (jle_v (jle_v (jle_n jle_nil)))))))) ?_
            exact kM_bestBut_l11_j76  hd K HL HE0
    · replace K := (if_neg hc4).symm.trans K
      refine jx_le (pl' := [some (.ref 110), some (.int v1), some (.int v2), some (.long v3), none, some (.int v5), none, none]) (jle_v (jle_v (jle_v (jle_v (jle_n (jle_v (jle_n (jle_n jle_nil)))))))) ?_
      exact kM_bestBut_l11_j82  hd K HL HE0
theorem kM_bestBut_l11_w {X : jX} {dd : Nat} {p d : Nat} {q : Nat → Nat} {Q : Option Value → jS → Prop} {v1 : Int32}  (hd : 8 ≤ (dd + 1)) {s : Int32 × Int64 × Int32 × jH} {x : Int32 × jH} (K : jlim (fM_bestBut_l11 v1) s = some x) (HE : jEx X (dd + 1) jc_276 88 [none, none, some (.int x.1), none, none, none, none, none] [] (176, jRf p d q, x.2) Q) :
    jEx X (dd + 1) jc_276 11 [some (.ref 110), some (.int v1), some (.int s.1), some (.long s.2.1), none, some (.int s.2.2.1), none, none] [] (176, jRf p d q, s.2.2.2) Q := by
  refine jlim_ok (G := fun s : Int32 × Int64 × Int32 × jH => jEx X (dd + 1) jc_276 11 [some (.ref 110), some (.int v1), some (.int s.1), some (.long s.2.1), none, some (.int s.2.2.1), none, none] [] (176, jRf p d q, s.2.2.2) Q) (GX := fun x : Int32 × jH => jEx X (dd + 1) jc_276 88 [none, none, some (.int x.1), none, none, none, none, none] [] (176, jRf p d q, x.2) Q) (fun s z hz HL HE => ?_) K HE
  exact kM_bestBut_l11_b  hd hz HL HE
/-- AndGuestModel.bestBut(I)I -/
noncomputable def fM_bestBut (v1 : Int32) (h : jH) : Option (Int32 × jH) :=
  (Option.bind (fM_worthBy 0 h) (fun (z1 : Int64 × jH) =>
  (Option.bind (jlim (fM_bestBut_l11  v1) (0, z1.1, 1, z1.2)) (fun (x13 : Int32 × jH) =>
  some (x13.1, x13.2)))))
theorem kM_bestBut {X : jX} {dd : Nat} {p d : Nat} {q : Nat → Nat} {Q : Option Value → jS → Prop} {v1 : Int32} {h : jH}  (hd : 8 ≤ dd) {z : Int32 × jH} (K : fM_bestBut v1 h = some z) (HQ : Q (some (.int z.1)) (176, jRf p d q, z.2)) :
    jCa X dd 276 [.ref 110, .int v1] (176, jRf p d q, h) Q := by
  obtain ⟨dd, rfl⟩ : ∃ d9, dd = d9 + 1 := ⟨dd - 1, by omega⟩
  unfold fM_bestBut at K
  refine jCa_of (es := jc_276) (pl := [some (.ref 110), some (.int v1), none, none, none, none, none, none]) (M := jm_276) rfl rfl rfl rfl ?_
  refine jx_next (pc := 0) (pc' := 1) rfl rfl ?_
  refine jx_stin (pc := 1) (p2 := [some (.ref 110), some (.int v1), some (.int 0), none, none, none, none, none]) rfl (jlt rfl) rfl ?_
  refine jx_next (pc := 2) (pc' := 3) rfl rfl ?_
  refine jx_next (pc := 3) (pc' := 4) rfl rfl ?_
  refine jx_callv (pc := 4) (o := 110) (rest := []) rfl ⟨by decide, by decide⟩ rfl jko_110 (Nat.le_of_ble_eq_true rfl) ?_
  obtain ⟨z1, hz_z1, K⟩ := Option.bind_eq_some_iff.mp K
  refine kM_worthBy  (by omega) hz_z1 ?_
  refine jx_stln (pc := 7) (p2 := [some (.ref 110), some (.int v1), some (.int 0), some (.long z1.1), none, none, none, none]) rfl (jlt rfl) rfl ?_
  refine jx_next (pc := 8) (pc' := 9) rfl rfl ?_
  refine jx_sti (pc := 9) (p2 := [some (.ref 110), some (.int v1), some (.int 0), some (.long z1.1), none, some (.int 1), none, none]) rfl (jlt rfl) rfl ?_
  refine jx_le (pl' := [some (.ref 110), some (.int v1), some (.int 0), some (.long z1.1), none, some (.int 1), none, none]) (jle_v (jle_v (jle_v (jle_v (jle_n (jle_v (jle_n (jle_n jle_nil)))))))) ?_
  obtain ⟨x13, hz_x13, K⟩ := Option.bind_eq_some_iff.mp K
  refine kM_bestBut_l11_w  hd hz_x13 ?_
  refine jx_next (pc := 88) (pc' := 89) rfl rfl ?_
  obtain rfl := Option.some.inj K
  exact jx_iret (pc := 89) rfl HQ
/-- AndGuestModel.best()I -/
noncomputable def fM_best  (h : jH) : Option (Int32 × jH) :=
  (if (h.1 110 48) = 0 then
  some ((-1), h)
  else
  (Option.bind (fM_bestBut 0 h) (fun (z2 : Int32 × jH) =>
  some (z2.1, z2.2))))
theorem kM_best {X : jX} {dd : Nat} {p d : Nat} {q : Nat → Nat} {Q : Option Value → jS → Prop}  {h : jH}  (hd : 9 ≤ dd) {z : Int32 × jH} (K : fM_best  h = some z) (HQ : Q (some (.int z.1)) (176, jRf p d q, z.2)) :
    jCa X dd 275 [.ref 110] (176, jRf p d q, h) Q := by
  obtain ⟨dd, rfl⟩ : ∃ d9, dd = d9 + 1 := ⟨dd - 1, by omega⟩
  unfold fM_best at K
  refine jCa_of (es := jc_275) (pl := [some (.ref 110)]) (M := jm_275) rfl rfl rfl rfl ?_
  refine jx_next (pc := 0) (pc' := 1) rfl rfl ?_
  refine jx_getz (pc := 1) rfl jko_110 ?_
  refine jx_ifeq (pc := 4) rfl (fun hc1 => ?_) (fun hc1 => ?_)
  · replace K := (if_pos hc1).symm.trans K
    refine jx_next (pc := 15) (pc' := 16) rfl rfl ?_
    obtain rfl := Option.some.inj K
    exact jx_iret (pc := 16) rfl HQ
  · replace K := (if_neg hc1).symm.trans K
    refine jx_next (pc := 7) (pc' := 8) rfl rfl ?_
    refine jx_next (pc := 8) (pc' := 9) rfl rfl ?_
    refine jx_callv (pc := 9) (o := 110) (rest := []) rfl ⟨by decide, by decide⟩ rfl jko_110 (Nat.le_of_ble_eq_true rfl) ?_
    obtain ⟨z2, hz_z2, K⟩ := Option.bind_eq_some_iff.mp K
    refine kM_bestBut  (by omega) hz_z2 ?_
    refine jx_next (pc := 12) (pc' := 16) rfl rfl ?_
    obtain rfl := Option.some.inj K
    exact jx_iret (pc := 16) rfl HQ
noncomputable def fM_sizeBy_l4_j29 (v1 : Int32) (v2 : Int32) (v3 : Int32) (h : jH) : Option ((Int32 × Int32) ⊕ (Int32)) :=
  some (.inl (v2, v3 + 1))
theorem kM_sizeBy_l4_j29 {X : jX} {dd : Nat} {p d : Nat} {q : Nat → Nat} {Q : Option Value → jS → Prop} {v1 : Int32} {v2 : Int32} {v3 : Int32} {h : jH}  (hd : 1 ≤ (dd + 1)) {z : (Int32 × Int32) ⊕ (Int32)} (K : fM_sizeBy_l4_j29 v1 v2 v3 h = some z) (HL : ∀ s : Int32 × Int32, z = .inl s → jEx X (dd + 1) jc_278 4 [some (.ref 110), some (.int v1), some (.int s.1), some (.int s.2)] [] (176, jRf p d q, h) Q) (HE0 : ∀ x : Int32, z = .inr x → jEx X (dd + 1) jc_278 35 [none, none, some (.int x), none] [] (176, jRf p d q, h) Q) :
    jEx X (dd + 1) jc_278 29 [some (.ref 110), some (.int v1), some (.int v2), some (.int v3)] [] (176, jRf p d q, h) Q := by
  unfold fM_sizeBy_l4_j29 at K
  refine jx_inc (pc := 29) (x := v3) (p2 := [some (.ref 110), some (.int v1), some (.int v2), some (.int (v3 + 1))]) rfl rfl (jlt rfl) rfl ?_
  refine jx_next (pc := 32) (pc' := 4) rfl rfl ?_
  obtain rfl := Option.some.inj K
  refine jx_le (pl' := [some (.ref 110), some (.int v1), some (.int v2), some (.int (v3 + 1))]) (jle_v (jle_v (jle_v (jle_v jle_nil)))) ?_
  exact HL (v2, v3 + 1) rfl
noncomputable def fM_sizeBy_l4_b (v1 : Int32) (v2 : Int32) (v3 : Int32) (h : jH) : Option ((Int32 × Int32) ⊕ (Int32)) :=
  (Option.bind (fM_guestMany h) (fun (z1 : Int32) =>
  (if v3 < z1 then
  (if ((v1 >>> (v3 &&& 31)) &&& 1) = 1 then
  (Option.bind (fM_sizeOf v3 h) (fun (z4 : Int32) =>
  fM_sizeBy_l4_j29  v1 (v2 + z4) v3 h))
  else
  fM_sizeBy_l4_j29  v1 v2 v3 h)
  else
  some (.inr v2))))
noncomputable def fM_sizeBy_l4 (v1 : Int32) (h : jH) : (Int32 × Int32) → Option ((Int32 × Int32) ⊕ (Int32)) :=
  fun (s : Int32 × Int32) => fM_sizeBy_l4_b v1 s.1 s.2 h
theorem kM_sizeBy_l4_b {X : jX} {dd : Nat} {p d : Nat} {q : Nat → Nat} {Q : Option Value → jS → Prop} {v1 : Int32} {v2 : Int32} {v3 : Int32} {h : jH}  (hd : 1 ≤ (dd + 1)) {z : (Int32 × Int32) ⊕ (Int32)} (K : fM_sizeBy_l4_b v1 v2 v3 h = some z) (HL : ∀ s : Int32 × Int32, z = .inl s → jEx X (dd + 1) jc_278 4 [some (.ref 110), some (.int v1), some (.int s.1), some (.int s.2)] [] (176, jRf p d q, h) Q) (HE0 : ∀ x : Int32, z = .inr x → jEx X (dd + 1) jc_278 35 [none, none, some (.int x), none] [] (176, jRf p d q, h) Q) :
    jEx X (dd + 1) jc_278 4 [some (.ref 110), some (.int v1), some (.int v2), some (.int v3)] [] (176, jRf p d q, h) Q := by
  unfold fM_sizeBy_l4_b at K
  refine jx_next (pc := 4) (pc' := 5) rfl rfl ?_
  refine jx_next (pc := 5) (pc' := 6) rfl rfl ?_
  refine jx_callv (pc := 6) (o := 110) (rest := [.int v3]) rfl ⟨by decide, by decide⟩ rfl jko_110 (Nat.le_of_ble_eq_true rfl) ?_
  obtain ⟨z1, hz_z1, K⟩ := Option.bind_eq_some_iff.mp K
  refine kM_guestMany  (by omega) hz_z1 ?_
  refine jx_icge (pc := 9) rfl (fun hc2 => ?_) (fun hc2 => ?_)
  · replace K := (if_pos hc2).symm.trans K
    refine jx_next (pc := 12) (pc' := 13) rfl rfl ?_
    refine jx_next (pc := 13) (pc' := 14) rfl rfl ?_
    refine jx_next (pc := 14) (pc' := 15) rfl rfl ?_
    refine jx_next (pc := 15) (pc' := 16) rfl rfl ?_
    refine jx_next (pc := 16) (pc' := 17) rfl rfl ?_
    refine jx_next (pc := 17) (pc' := 18) rfl rfl ?_
    refine jx_icne (pc := 18) rfl (fun hc3 => ?_) (fun hc3 => ?_)
    · replace K := (if_pos hc3).symm.trans K
      refine jx_next (pc := 21) (pc' := 22) rfl rfl ?_
      refine jx_next (pc := 22) (pc' := 23) rfl rfl ?_
      refine jx_next (pc := 23) (pc' := 24) rfl rfl ?_
      refine jx_callv (pc := 24) (o := 110) (rest := [.int v2]) rfl ⟨by decide, by decide⟩ rfl jko_110 (Nat.le_of_ble_eq_true rfl) ?_
      obtain ⟨z4, hz_z4, K⟩ := Option.bind_eq_some_iff.mp K
      refine kM_sizeOf  (by omega) hz_z4 ?_
      refine jx_next (pc := 27) (pc' := 28) rfl rfl ?_
      refine jx_stin (pc := 28) (p2 := [some (.ref 110), some (.int v1), some (.int (v2 + z4)), some (.int v3)]) rfl (jlt rfl) rfl ?_
      refine jx_le (pl' := [some (.ref 110), some (.int v1), some (.int (v2 + z4)), some (.int v3)]) (jle_v (jle_v (jle_v (jle_v jle_nil)))) ?_
      exact kM_sizeBy_l4_j29  hd K HL HE0
    · replace K := (if_neg hc3).symm.trans K
      refine jx_le (pl' := [some (.ref 110), some (.int v1), some (.int v2), some (.int v3)]) (jle_v (jle_v (jle_v (jle_v jle_nil)))) ?_
      exact kM_sizeBy_l4_j29  hd K HL HE0
  · replace K := (if_neg hc2).symm.trans K
    obtain rfl := Option.some.inj K
    refine jx_le (pl' := [none, none, some (.int v2), none]) (jle_n (jle_n (jle_v (jle_n jle_nil)))) ?_
    exact HE0 _ rfl
theorem kM_sizeBy_l4_w {X : jX} {dd : Nat} {p d : Nat} {q : Nat → Nat} {Q : Option Value → jS → Prop} {v1 : Int32} {h : jH}  (hd : 1 ≤ (dd + 1)) {s : Int32 × Int32} {x : Int32} (K : jlim (fM_sizeBy_l4 v1 h) s = some x) (HE : jEx X (dd + 1) jc_278 35 [none, none, some (.int x), none] [] (176, jRf p d q, h) Q) :
    jEx X (dd + 1) jc_278 4 [some (.ref 110), some (.int v1), some (.int s.1), some (.int s.2)] [] (176, jRf p d q, h) Q := by
  refine jlim_ok (G := fun s : Int32 × Int32 => jEx X (dd + 1) jc_278 4 [some (.ref 110), some (.int v1), some (.int s.1), some (.int s.2)] [] (176, jRf p d q, h) Q) (GX := fun x : Int32 => jEx X (dd + 1) jc_278 35 [none, none, some (.int x), none] [] (176, jRf p d q, h) Q) (fun s z hz HL HE => ?_) K HE
  exact kM_sizeBy_l4_b  hd hz HL HE
/-- AndGuestModel.sizeBy(I)I -/
noncomputable def fM_sizeBy (v1 : Int32) (h : jH) : Option Int32 :=
  (Option.bind (jlim (fM_sizeBy_l4  v1 h) (0, 0)) (fun (x5 : Int32) =>
  some (x5 : Int32)))
theorem kM_sizeBy {X : jX} {dd : Nat} {p d : Nat} {q : Nat → Nat} {Q : Option Value → jS → Prop} {v1 : Int32} {h : jH}  (hd : 1 ≤ dd) {z : Int32} (K : fM_sizeBy v1 h = some z) (HQ : Q (some (.int z)) (176, jRf p d q, h)) :
    jCa X dd 278 [.ref 110, .int v1] (176, jRf p d q, h) Q := by
  obtain ⟨dd, rfl⟩ : ∃ d9, dd = d9 + 1 := ⟨dd - 1, by omega⟩
  unfold fM_sizeBy at K
  refine jCa_of (es := jc_278) (pl := [some (.ref 110), some (.int v1), none, none]) (M := jm_278) rfl rfl rfl rfl ?_
  refine jx_next (pc := 0) (pc' := 1) rfl rfl ?_
  refine jx_stin (pc := 1) (p2 := [some (.ref 110), some (.int v1), some (.int 0), none]) rfl (jlt rfl) rfl ?_
  refine jx_next (pc := 2) (pc' := 3) rfl rfl ?_
  refine jx_stin (pc := 3) (p2 := [some (.ref 110), some (.int v1), some (.int 0), some (.int 0)]) rfl (jlt rfl) rfl ?_
  refine jx_le (pl' := [some (.ref 110), some (.int v1), some (.int 0), some (.int 0)]) (jle_v (jle_v (jle_v (jle_v jle_nil)))) ?_
  obtain ⟨x5, hz_x5, K⟩ := Option.bind_eq_some_iff.mp K
  refine kM_sizeBy_l4_w  hd hz_x5 ?_
  refine jx_next (pc := 35) (pc' := 36) rfl rfl ?_
  obtain rfl := Option.some.inj K
  exact jx_iret (pc := 36) rfl HQ
noncomputable def fM_slights_l4_j48 (v1 : Int32) (v2 : Int32) (v3 : Int32) (h : jH) : Option ((Int32 × Int32) ⊕ (Int32)) :=
  some (.inl (v2, v3 + 1))
theorem kM_slights_l4_j48 {X : jX} {dd : Nat} {p d : Nat} {q : Nat → Nat} {Q : Option Value → jS → Prop} {v1 : Int32} {v2 : Int32} {v3 : Int32} {h : jH}  (hd : 1 ≤ (dd + 1)) {z : (Int32 × Int32) ⊕ (Int32)} (K : fM_slights_l4_j48 v1 v2 v3 h = some z) (HL : ∀ s : Int32 × Int32, z = .inl s → jEx X (dd + 1) jc_279 4 [some (.ref 110), some (.int v1), some (.int s.1), some (.int s.2)] [] (176, jRf p d q, h) Q) (HE0 : ∀ x : Int32, z = .inr x → jEx X (dd + 1) jc_279 54 [none, none, some (.int x), none] [] (176, jRf p d q, h) Q) :
    jEx X (dd + 1) jc_279 48 [some (.ref 110), some (.int v1), some (.int v2), some (.int v3)] [] (176, jRf p d q, h) Q := by
  unfold fM_slights_l4_j48 at K
  refine jx_inc (pc := 48) (x := v3) (p2 := [some (.ref 110), some (.int v1), some (.int v2), some (.int (v3 + 1))]) rfl rfl (jlt rfl) rfl ?_
  refine jx_next (pc := 51) (pc' := 4) rfl rfl ?_
  obtain rfl := Option.some.inj K
  refine jx_le (pl' := [some (.ref 110), some (.int v1), some (.int v2), some (.int (v3 + 1))]) (jle_v (jle_v (jle_v (jle_v jle_nil)))) ?_
  exact HL (v2, v3 + 1) rfl
noncomputable def fM_slights_l4_b (v1 : Int32) (v2 : Int32) (v3 : Int32) (h : jH) : Option ((Int32 × Int32) ⊕ (Int32)) :=
  (Option.bind (fM_guestMany h) (fun (z1 : Int32) =>
  (if v3 < z1 then
  (if ((v1 >>> (v3 &&& 31)) &&& 1) = 0 then
  (if jin (8 + v3) 16 then
  (if ((h.1 143 (8 + v3).toNatClampNeg) &&& v1) = 0 then
  fM_slights_l4_j48  v1 v2 v3 h
  else
  (if jin (35 + (4 * v3)) 64 then
  fM_slights_l4_j48  v1 (v2 + (h.1 141 (35 + (4 * v3)).toNatClampNeg)) v3 h
  else none))
  else none)
  else
  fM_slights_l4_j48  v1 v2 v3 h)
  else
  some (.inr v2))))
noncomputable def fM_slights_l4 (v1 : Int32) (h : jH) : (Int32 × Int32) → Option ((Int32 × Int32) ⊕ (Int32)) :=
  fun (s : Int32 × Int32) => fM_slights_l4_b v1 s.1 s.2 h
theorem kM_slights_l4_b {X : jX} {dd : Nat} {p d : Nat} {q : Nat → Nat} {Q : Option Value → jS → Prop} {v1 : Int32} {v2 : Int32} {v3 : Int32} {h : jH}  (hd : 1 ≤ (dd + 1)) {z : (Int32 × Int32) ⊕ (Int32)} (K : fM_slights_l4_b v1 v2 v3 h = some z) (HL : ∀ s : Int32 × Int32, z = .inl s → jEx X (dd + 1) jc_279 4 [some (.ref 110), some (.int v1), some (.int s.1), some (.int s.2)] [] (176, jRf p d q, h) Q) (HE0 : ∀ x : Int32, z = .inr x → jEx X (dd + 1) jc_279 54 [none, none, some (.int x), none] [] (176, jRf p d q, h) Q) :
    jEx X (dd + 1) jc_279 4 [some (.ref 110), some (.int v1), some (.int v2), some (.int v3)] [] (176, jRf p d q, h) Q := by
  unfold fM_slights_l4_b at K
  refine jx_next (pc := 4) (pc' := 5) rfl rfl ?_
  refine jx_next (pc := 5) (pc' := 6) rfl rfl ?_
  refine jx_callv (pc := 6) (o := 110) (rest := [.int v3]) rfl ⟨by decide, by decide⟩ rfl jko_110 (Nat.le_of_ble_eq_true rfl) ?_
  obtain ⟨z1, hz_z1, K⟩ := Option.bind_eq_some_iff.mp K
  refine kM_guestMany  (by omega) hz_z1 ?_
  refine jx_icge (pc := 9) rfl (fun hc2 => ?_) (fun hc2 => ?_)
  · replace K := (if_pos hc2).symm.trans K
    refine jx_next (pc := 12) (pc' := 13) rfl rfl ?_
    refine jx_next (pc := 13) (pc' := 14) rfl rfl ?_
    refine jx_next (pc := 14) (pc' := 15) rfl rfl ?_
    refine jx_next (pc := 15) (pc' := 16) rfl rfl ?_
    refine jx_next (pc := 16) (pc' := 17) rfl rfl ?_
    refine jx_ifne (pc := 17) rfl (fun hc3 => ?_) (fun hc3 => ?_)
    · replace K := (if_pos hc3).symm.trans K
      refine jx_next (pc := 20) (pc' := 21) rfl rfl ?_
      refine jx_getr2 (pc := 21) rfl jko_110 jr_12_41 ?_
      refine jx_next (pc := 24) (pc' := 26) rfl rfl ?_
      refine jx_next (pc := 26) (pc' := 27) rfl rfl ?_
      refine jx_next (pc := 27) (pc' := 28) rfl rfl ?_
      obtain ⟨hg4, K⟩ := jguard K
      refine jx_iald2 (pc := 28) rfl jko_143 jno_143 hg4 ?_
      refine jx_next (pc := 29) (pc' := 30) rfl rfl ?_
      refine jx_next (pc := 30) (pc' := 31) rfl rfl ?_
      refine jx_ifeq (pc := 31) rfl (fun hc5 => ?_) (fun hc5 => ?_)
      · replace K := (if_pos hc5).symm.trans K
        refine jx_le (pl' := [some (.ref 110), some (.int v1), some (.int v2), some (.int v3)]) (jle_v (jle_v (jle_v (jle_v jle_nil)))) ?_
        exact kM_slights_l4_j48  hd K HL HE0
      · replace K := (if_neg hc5).symm.trans K
        refine jx_next (pc := 34) (pc' := 35) rfl rfl ?_
        refine jx_next (pc := 35) (pc' := 36) rfl rfl ?_
        refine jx_getr2 (pc := 36) rfl jko_110 jr_12_39 ?_
        refine jx_next (pc := 39) (pc' := 41) rfl rfl ?_
        refine jx_next (pc := 41) (pc' := 42) rfl rfl ?_
        refine jx_next (pc := 42) (pc' := 43) rfl rfl ?_
        refine jx_next (pc := 43) (pc' := 44) rfl rfl ?_
        refine jx_next (pc := 44) (pc' := 45) rfl rfl ?_
        obtain ⟨hg6, K⟩ := jguard K
        refine jx_iald2 (pc := 45) rfl jko_141 jno_141 hg6 ?_
        refine jx_next (pc := 46) (pc' := 47) rfl rfl ?_
        refine jx_stin (pc := 47) (p2 := [some (.ref 110), some (.int v1), some (.int (v2 + (h.1 141 (35 + (4 * v3)).toNatClampNeg))), some (.int v3)]) rfl (jlt rfl) rfl ?_
        refine jx_le (pl' := [some (.ref 110), some (.int v1), some (.int (v2 + (h.1 141 (35 + (4 * v3)).toNatClampNeg))), some (.int v3)]) (jle_v (jle_v (jle_v (jle_v jle_nil)))) ?_
        exact kM_slights_l4_j48  hd K HL HE0
    · replace K := (if_neg hc3).symm.trans K
      refine jx_le (pl' := [some (.ref 110), some (.int v1), some (.int v2), some (.int v3)]) (jle_v (jle_v (jle_v (jle_v jle_nil)))) ?_
      exact kM_slights_l4_j48  hd K HL HE0
  · replace K := (if_neg hc2).symm.trans K
    obtain rfl := Option.some.inj K
    refine jx_le (pl' := [none, none, some (.int v2), none]) (jle_n (jle_n (jle_v (jle_n jle_nil)))) ?_
    exact HE0 _ rfl
theorem kM_slights_l4_w {X : jX} {dd : Nat} {p d : Nat} {q : Nat → Nat} {Q : Option Value → jS → Prop} {v1 : Int32} {h : jH}  (hd : 1 ≤ (dd + 1)) {s : Int32 × Int32} {x : Int32} (K : jlim (fM_slights_l4 v1 h) s = some x) (HE : jEx X (dd + 1) jc_279 54 [none, none, some (.int x), none] [] (176, jRf p d q, h) Q) :
    jEx X (dd + 1) jc_279 4 [some (.ref 110), some (.int v1), some (.int s.1), some (.int s.2)] [] (176, jRf p d q, h) Q := by
  refine jlim_ok (G := fun s : Int32 × Int32 => jEx X (dd + 1) jc_279 4 [some (.ref 110), some (.int v1), some (.int s.1), some (.int s.2)] [] (176, jRf p d q, h) Q) (GX := fun x : Int32 => jEx X (dd + 1) jc_279 54 [none, none, some (.int x), none] [] (176, jRf p d q, h) Q) (fun s z hz HL HE => ?_) K HE
  exact kM_slights_l4_b  hd hz HL HE
/-- AndGuestModel.slights(I)I -/
noncomputable def fM_slights (v1 : Int32) (h : jH) : Option Int32 :=
  (Option.bind (jlim (fM_slights_l4  v1 h) (0, 0)) (fun (x7 : Int32) =>
  some (x7 : Int32)))
theorem kM_slights {X : jX} {dd : Nat} {p d : Nat} {q : Nat → Nat} {Q : Option Value → jS → Prop} {v1 : Int32} {h : jH}  (hd : 1 ≤ dd) {z : Int32} (K : fM_slights v1 h = some z) (HQ : Q (some (.int z)) (176, jRf p d q, h)) :
    jCa X dd 279 [.ref 110, .int v1] (176, jRf p d q, h) Q := by
  obtain ⟨dd, rfl⟩ : ∃ d9, dd = d9 + 1 := ⟨dd - 1, by omega⟩
  unfold fM_slights at K
  refine jCa_of (es := jc_279) (pl := [some (.ref 110), some (.int v1), none, none]) (M := jm_279) rfl rfl rfl rfl ?_
  refine jx_next (pc := 0) (pc' := 1) rfl rfl ?_
  refine jx_stin (pc := 1) (p2 := [some (.ref 110), some (.int v1), some (.int 0), none]) rfl (jlt rfl) rfl ?_
  refine jx_next (pc := 2) (pc' := 3) rfl rfl ?_
  refine jx_stin (pc := 3) (p2 := [some (.ref 110), some (.int v1), some (.int 0), some (.int 0)]) rfl (jlt rfl) rfl ?_
  refine jx_le (pl' := [some (.ref 110), some (.int v1), some (.int 0), some (.int 0)]) (jle_v (jle_v (jle_v (jle_v jle_nil)))) ?_
  obtain ⟨x7, hz_x7, K⟩ := Option.bind_eq_some_iff.mp K
  refine kM_slights_l4_w  hd hz_x7 ?_
  refine jx_next (pc := 54) (pc' := 55) rfl rfl ?_
  obtain rfl := Option.some.inj K
  exact jx_iret (pc := 55) rfl HQ
noncomputable def fM_joyBy_l4_j29 (v1 : Int32) (v2 : Int32) (v3 : Int32) (h : jH) : Option ((Int32 × Int32) ⊕ (Int32)) :=
  some (.inl (v2, v3 + 1))
theorem kM_joyBy_l4_j29 {X : jX} {dd : Nat} {p d : Nat} {q : Nat → Nat} {Q : Option Value → jS → Prop} {v1 : Int32} {v2 : Int32} {v3 : Int32} {h : jH}  (hd : 1 ≤ (dd + 1)) {z : (Int32 × Int32) ⊕ (Int32)} (K : fM_joyBy_l4_j29 v1 v2 v3 h = some z) (HL : ∀ s : Int32 × Int32, z = .inl s → jEx X (dd + 1) jc_280 4 [some (.ref 110), some (.int v1), some (.int s.1), some (.int s.2)] [] (176, jRf p d q, h) Q) (HE0 : ∀ x : Int32, z = .inr x → jEx X (dd + 1) jc_280 35 [none, none, some (.int x), none] [] (176, jRf p d q, h) Q) :
    jEx X (dd + 1) jc_280 29 [some (.ref 110), some (.int v1), some (.int v2), some (.int v3)] [] (176, jRf p d q, h) Q := by
  unfold fM_joyBy_l4_j29 at K
  refine jx_inc (pc := 29) (x := v3) (p2 := [some (.ref 110), some (.int v1), some (.int v2), some (.int (v3 + 1))]) rfl rfl (jlt rfl) rfl ?_
  refine jx_next (pc := 32) (pc' := 4) rfl rfl ?_
  obtain rfl := Option.some.inj K
  refine jx_le (pl' := [some (.ref 110), some (.int v1), some (.int v2), some (.int (v3 + 1))]) (jle_v (jle_v (jle_v (jle_v jle_nil)))) ?_
  exact HL (v2, v3 + 1) rfl
noncomputable def fM_joyBy_l4_b (v1 : Int32) (v2 : Int32) (v3 : Int32) (h : jH) : Option ((Int32 × Int32) ⊕ (Int32)) :=
  (Option.bind (fM_guestMany h) (fun (z1 : Int32) =>
  (if v3 < z1 then
  (if ((v1 >>> (v3 &&& 31)) &&& 1) = 1 then
  (Option.bind (fM_joyOf v3 h) (fun (z4 : Int32) =>
  fM_joyBy_l4_j29  v1 (v2 + z4) v3 h))
  else
  fM_joyBy_l4_j29  v1 v2 v3 h)
  else
  some (.inr v2))))
noncomputable def fM_joyBy_l4 (v1 : Int32) (h : jH) : (Int32 × Int32) → Option ((Int32 × Int32) ⊕ (Int32)) :=
  fun (s : Int32 × Int32) => fM_joyBy_l4_b v1 s.1 s.2 h
theorem kM_joyBy_l4_b {X : jX} {dd : Nat} {p d : Nat} {q : Nat → Nat} {Q : Option Value → jS → Prop} {v1 : Int32} {v2 : Int32} {v3 : Int32} {h : jH}  (hd : 1 ≤ (dd + 1)) {z : (Int32 × Int32) ⊕ (Int32)} (K : fM_joyBy_l4_b v1 v2 v3 h = some z) (HL : ∀ s : Int32 × Int32, z = .inl s → jEx X (dd + 1) jc_280 4 [some (.ref 110), some (.int v1), some (.int s.1), some (.int s.2)] [] (176, jRf p d q, h) Q) (HE0 : ∀ x : Int32, z = .inr x → jEx X (dd + 1) jc_280 35 [none, none, some (.int x), none] [] (176, jRf p d q, h) Q) :
    jEx X (dd + 1) jc_280 4 [some (.ref 110), some (.int v1), some (.int v2), some (.int v3)] [] (176, jRf p d q, h) Q := by
  unfold fM_joyBy_l4_b at K
  refine jx_next (pc := 4) (pc' := 5) rfl rfl ?_
  refine jx_next (pc := 5) (pc' := 6) rfl rfl ?_
  refine jx_callv (pc := 6) (o := 110) (rest := [.int v3]) rfl ⟨by decide, by decide⟩ rfl jko_110 (Nat.le_of_ble_eq_true rfl) ?_
  obtain ⟨z1, hz_z1, K⟩ := Option.bind_eq_some_iff.mp K
  refine kM_guestMany  (by omega) hz_z1 ?_
  refine jx_icge (pc := 9) rfl (fun hc2 => ?_) (fun hc2 => ?_)
  · replace K := (if_pos hc2).symm.trans K
    refine jx_next (pc := 12) (pc' := 13) rfl rfl ?_
    refine jx_next (pc := 13) (pc' := 14) rfl rfl ?_
    refine jx_next (pc := 14) (pc' := 15) rfl rfl ?_
    refine jx_next (pc := 15) (pc' := 16) rfl rfl ?_
    refine jx_next (pc := 16) (pc' := 17) rfl rfl ?_
    refine jx_next (pc := 17) (pc' := 18) rfl rfl ?_
    refine jx_icne (pc := 18) rfl (fun hc3 => ?_) (fun hc3 => ?_)
    · replace K := (if_pos hc3).symm.trans K
      refine jx_next (pc := 21) (pc' := 22) rfl rfl ?_
      refine jx_next (pc := 22) (pc' := 23) rfl rfl ?_
      refine jx_next (pc := 23) (pc' := 24) rfl rfl ?_
      refine jx_callv (pc := 24) (o := 110) (rest := [.int v2]) rfl ⟨by decide, by decide⟩ rfl jko_110 (Nat.le_of_ble_eq_true rfl) ?_
      obtain ⟨z4, hz_z4, K⟩ := Option.bind_eq_some_iff.mp K
      refine kM_joyOf  (by omega) hz_z4 ?_
      refine jx_next (pc := 27) (pc' := 28) rfl rfl ?_
      refine jx_stin (pc := 28) (p2 := [some (.ref 110), some (.int v1), some (.int (v2 + z4)), some (.int v3)]) rfl (jlt rfl) rfl ?_
      refine jx_le (pl' := [some (.ref 110), some (.int v1), some (.int (v2 + z4)), some (.int v3)]) (jle_v (jle_v (jle_v (jle_v jle_nil)))) ?_
      exact kM_joyBy_l4_j29  hd K HL HE0
    · replace K := (if_neg hc3).symm.trans K
      refine jx_le (pl' := [some (.ref 110), some (.int v1), some (.int v2), some (.int v3)]) (jle_v (jle_v (jle_v (jle_v jle_nil)))) ?_
      exact kM_joyBy_l4_j29  hd K HL HE0
  · replace K := (if_neg hc2).symm.trans K
    obtain rfl := Option.some.inj K
    refine jx_le (pl' := [none, none, some (.int v2), none]) (jle_n (jle_n (jle_v (jle_n jle_nil)))) ?_
    exact HE0 _ rfl
theorem kM_joyBy_l4_w {X : jX} {dd : Nat} {p d : Nat} {q : Nat → Nat} {Q : Option Value → jS → Prop} {v1 : Int32} {h : jH}  (hd : 1 ≤ (dd + 1)) {s : Int32 × Int32} {x : Int32} (K : jlim (fM_joyBy_l4 v1 h) s = some x) (HE : jEx X (dd + 1) jc_280 35 [none, none, some (.int x), none] [] (176, jRf p d q, h) Q) :
    jEx X (dd + 1) jc_280 4 [some (.ref 110), some (.int v1), some (.int s.1), some (.int s.2)] [] (176, jRf p d q, h) Q := by
  refine jlim_ok (G := fun s : Int32 × Int32 => jEx X (dd + 1) jc_280 4 [some (.ref 110), some (.int v1), some (.int s.1), some (.int s.2)] [] (176, jRf p d q, h) Q) (GX := fun x : Int32 => jEx X (dd + 1) jc_280 35 [none, none, some (.int x), none] [] (176, jRf p d q, h) Q) (fun s z hz HL HE => ?_) K HE
  exact kM_joyBy_l4_b  hd hz HL HE
/-- AndGuestModel.joyBy(I)I -/
noncomputable def fM_joyBy (v1 : Int32) (h : jH) : Option Int32 :=
  (Option.bind (jlim (fM_joyBy_l4  v1 h) (0, 0)) (fun (x5 : Int32) =>
  some (x5 : Int32)))
theorem kM_joyBy {X : jX} {dd : Nat} {p d : Nat} {q : Nat → Nat} {Q : Option Value → jS → Prop} {v1 : Int32} {h : jH}  (hd : 1 ≤ dd) {z : Int32} (K : fM_joyBy v1 h = some z) (HQ : Q (some (.int z)) (176, jRf p d q, h)) :
    jCa X dd 280 [.ref 110, .int v1] (176, jRf p d q, h) Q := by
  obtain ⟨dd, rfl⟩ : ∃ d9, dd = d9 + 1 := ⟨dd - 1, by omega⟩
  unfold fM_joyBy at K
  refine jCa_of (es := jc_280) (pl := [some (.ref 110), some (.int v1), none, none]) (M := jm_280) rfl rfl rfl rfl ?_
  refine jx_next (pc := 0) (pc' := 1) rfl rfl ?_
  refine jx_stin (pc := 1) (p2 := [some (.ref 110), some (.int v1), some (.int 0), none]) rfl (jlt rfl) rfl ?_
  refine jx_next (pc := 2) (pc' := 3) rfl rfl ?_
  refine jx_stin (pc := 3) (p2 := [some (.ref 110), some (.int v1), some (.int 0), some (.int 0)]) rfl (jlt rfl) rfl ?_
  refine jx_le (pl' := [some (.ref 110), some (.int v1), some (.int 0), some (.int 0)]) (jle_v (jle_v (jle_v (jle_v jle_nil)))) ?_
  obtain ⟨x5, hz_x5, K⟩ := Option.bind_eq_some_iff.mp K
  refine kM_joyBy_l4_w  hd hz_x5 ?_
  refine jx_next (pc := 35) (pc' := 36) rfl rfl ?_
  obtain rfl := Option.some.inj K
  exact jx_iret (pc := 36) rfl HQ
