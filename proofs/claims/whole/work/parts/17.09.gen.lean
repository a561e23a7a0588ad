noncomputable def fM_nameOf_l2_b (v1 : Int64) (v3 : Int32) (h : jH) : Option ((Int32) ⊕ ((Int32) ⊕ (Unit))) :=
  (if jin 0 6 then
  (if v3 < (h.1 138 (0 : Int32).toNatClampNeg) then
  (if jin v3 16 then
  (if (h.2 139 v3.toNatClampNeg) = v1 then
  some (.inr (.inl v3))
  else
  some (.inl (v3 + 1)))
  else none)
  else
  some (.inr (.inr ())))
  else none)
noncomputable def fM_nameOf_l2 (v1 : Int64) (h : jH) : Int32 → Option ((Int32) ⊕ ((Int32) ⊕ (Unit))) :=
  fun (s : Int32) => fM_nameOf_l2_b v1 s h
theorem kM_nameOf_l2_b {X : jX} {dd : Nat} {p d : Nat} {q : Nat → Nat} {Q : Option Value → jS → Prop} {v1 : Int64} {v3 : Int32} {h : jH}  (hd : 0 ≤ dd) {z : (Int32) ⊕ ((Int32) ⊕ (Unit))} (K : fM_nameOf_l2_b v1 v3 h = some z) (HL : ∀ s : Int32, z = .inl s → jEx X dd jc_207 2 [some (.ref 110), some (.long v1), none, some (.int s)] [] (176, jRf p d q, h) Q) (HE0 : ∀ x : Int32, z = .inr (.inl x) → jEx X dd jc_207 23 [none, none, none, some (.int x)] [] (176, jRf p d q, h) Q) (HE1 : ∀ x : Unit, z = .inr (.inr x) → jEx X dd jc_207 31 [none, none, none, none] [] (176, jRf p d q, h) Q) :
    jEx X dd jc_207 2 [some (.ref 110), some (.long v1), none, some (.int v3)] [] (176, jRf p d q, h) Q := by
  unfold fM_nameOf_l2_b at K
  refine jx_next (pc := 2) (pc' := 3) rfl rfl ?_
  refine jx_next (pc := 3) (pc' := 4) rfl rfl ?_
  refine jx_getr2 (pc := 4) rfl jko_110 jr_12_36 ?_
  refine jx_next (pc := 7) (pc' := 8) rfl rfl ?_
  obtain ⟨hg1, K⟩ := jguard K
  refine jx_iald2 (pc := 8) rfl jko_138 jno_138 hg1 ?_
  refine jx_icge (pc := 9) rfl (fun hc2 => ?_) (fun hc2 => ?_)
  · replace K := (if_pos hc2).symm.trans K
    refine jx_next (pc := 12) (pc' := 13) rfl rfl ?_
    refine jx_getr2 (pc := 13) rfl jko_110 jr_12_37 ?_
    refine jx_next (pc := 16) (pc' := 17) rfl rfl ?_
    obtain ⟨hg3, K⟩ := jguard K
    refine jx_lald2 (pc := 17) rfl jko_139 jno_139 hg3 ?_
    refine jx_next (pc := 18) (pc' := 19) rfl rfl ?_
    refine jx_lcne (pc := 19) rfl rfl (fun hc4 => ?_) (fun hc4 => ?_)
    · replace K := (if_pos hc4).symm.trans K
      obtain rfl := Option.some.inj K
      refine jx_le (pl' := [none, none, none, some (.int v3)]) (jle_n (jle_n (jle_n (jle_v jle_nil)))) ?_
      exact HE0 _ rfl
    · replace K := (if_neg hc4).symm.trans K
      refine jx_inc (pc := 25) (x := v3) (p2 := [some (.ref 110), some (.long v1), none, some (.int (v3 + 1))]) rfl rfl (jlt rfl) rfl ?_
      refine jx_next (pc := 28) (pc' := 2) rfl rfl ?_
      obtain rfl := Option.some.inj K
      refine jx_le (pl' := [some (.ref 110), some (.long v1), none, some (.int (v3 + 1))]) (jle_v (jle_v (jle_n (jle_v jle_nil)))) ?_
      exact HL (v3 + 1) rfl
  · replace K := (if_neg hc2).symm.trans K
    obtain rfl := Option.some.inj K
    refine jx_le (pl' := [none, none, none, none]) (jle_n (jle_n (jle_n (jle_n jle_nil)))) ?_
    exact HE1 _ rfl
theorem kM_nameOf_l2_w {X : jX} {dd : Nat} {p d : Nat} {q : Nat → Nat} {Q : Option Value → jS → Prop} {v1 : Int64} {h : jH}  (hd : 0 ≤ dd) {s : Int32} {x : (Int32) ⊕ (Unit)} (K : jlim (fM_nameOf_l2 v1 h) s = some x) (HE0 : ∀ x0 : Int32, x = .inl x0 → jEx X dd jc_207 23 [none, none, none, some (.int x0)] [] (176, jRf p d q, h) Q) (HE1 : ∀ x0 : Unit, x = .inr x0 → jEx X dd jc_207 31 [none, none, none, none] [] (176, jRf p d q, h) Q) :
    jEx X dd jc_207 2 [some (.ref 110), some (.long v1), none, some (.int s)] [] (176, jRf p d q, h) Q := by
  refine jlim_ok (G := fun s : Int32 => jEx X dd jc_207 2 [some (.ref 110), some (.long v1), none, some (.int s)] [] (176, jRf p d q, h) Q) (GX := fun x : (Int32) ⊕ (Unit) => (∀ x0 : Int32, x = .inl x0 → jEx X dd jc_207 23 [none, none, none, some (.int x0)] [] (176, jRf p d q, h) Q) ∧ (∀ x0 : Unit, x = .inr x0 → jEx X dd jc_207 31 [none, none, none, none] [] (176, jRf p d q, h) Q)) (fun s z hz HL HE => ?_) K ⟨HE0, HE1⟩
  exact kM_nameOf_l2_b  hd hz HL (fun x hx => (HE _ hx).1 x rfl) (fun x hx => (HE _ hx).2 x rfl)
/-- AndGuestModel.nameOf(J)I -/
noncomputable def fM_nameOf (v1 : Int64) (h : jH) : Option Int32 :=
  (Option.bind (jlim (fM_nameOf_l2  v1 h) 0) (fun (x5 : (Int32) ⊕ (Unit)) => Sum.elim (fun (y5 : Int32) =>
  some (y5 : Int32)) (fun (y5 : Unit) =>
  some ((-1) : Int32)) x5))
theorem kM_nameOf {X : jX} {dd : Nat} {p d : Nat} {q : Nat → Nat} {Q : Option Value → jS → Prop} {v1 : Int64} {h : jH}  (hd : 0 ≤ dd) {z : Int32} (K : fM_nameOf v1 h = some z) (HQ : Q (some (.int z)) (176, jRf p d q, h)) :
    jCa X dd 207 [.ref 110, .long v1] (176, jRf p d q, h) Q := by
  unfold fM_nameOf at K
  refine jCa_of (es := jc_207) (pl := [some (.ref 110), some (.long v1), none, none]) (M := jm_207) rfl rfl rfl rfl ?_
  refine jx_next (pc := 0) (pc' := 1) rfl rfl ?_
  refine jx_stin (pc := 1) (p2 := [some (.ref 110), some (.long v1), none, some (.int 0)]) rfl (jlt rfl) rfl ?_
  refine jx_le (pl' := [some (.ref 110), some (.long v1), none, some (.int 0)]) (jle_v (jle_v (jle_n (jle_v jle_nil)))) ?_
  obtain ⟨x5, hz_x5, K⟩ := Option.bind_eq_some_iff.mp K
  refine kM_nameOf_l2_w  hd hz_x5 (fun y5 hx9 => ?_) (fun y5 hx9 => ?_)
  · subst hx9
    refine jx_next (pc := 23) (pc' := 24) rfl rfl ?_
    obtain rfl := Option.some.inj K
    exact jx_iret (pc := 24) rfl HQ
  · subst hx9
    refine jx_next (pc := 31) (pc' := 32) rfl rfl ?_
    obtain rfl := Option.some.inj K
    exact jx_iret (pc := 32) rfl HQ
noncomputable def fM_guestTold_j42 (v2 : Int64) (h : jH) : Option jH :=
  (Option.bind (fM_asks 118 h) (fun (z7 : jH) =>
  (Option.bind (fM_number 0 10 z7) (fun (z8 : Int32 × jH) =>
  (Option.bind (fM_asks 119 z8.2) (fun (z9 : jH) =>
  (Option.bind (fM_number 0 99 z9) (fun (z10 : Int32 × jH) =>
  (Option.bind (fM_asks 120 z10.2) (fun (z11 : jH) =>
  (Option.bind (fM_number 0 3 z11) (fun (z12 : Int32 × jH) =>
  (Option.bind (fM_asks 121 z12.2) (fun (z13 : jH) =>
  (Option.bind (fM_number 0 99 z13) (fun (z14 : Int32 × jH) =>
  (if (z14.2.1 110 5) = 0 then
  (if jin 0 6 then
  (if jin 0 6 then
  (if jin (z14.2.1 138 (0 : Int32).toNatClampNeg) 16 then
  (if jin (4 * (z14.2.1 138 (0 : Int32).toNatClampNeg)) 64 then
  (if jin ((4 * (z14.2.1 138 (0 : Int32).toNatClampNeg)) + 1) 64 then
  (if jin ((4 * (z14.2.1 138 (0 : Int32).toNatClampNeg)) + 2) 64 then
  (if jin ((4 * (z14.2.1 138 (0 : Int32).toNatClampNeg)) + 3) 64 then
  (if jin 0 6 then
  (if jin 0 6 then
  some (jhI (jhI (jhI (jhI (jhI (jhL z14.2 139 (z14.2.1 138 (0 : Int32).toNatClampNeg).toNatClampNeg v2) 141 (4 * (z14.2.1 138 (0 : Int32).toNatClampNeg)).toNatClampNeg z8.1) 141 ((4 * (z14.2.1 138 (0 : Int32).toNatClampNeg)) + 1).toNatClampNeg z10.1) 141 ((4 * (z14.2.1 138 (0 : Int32).toNatClampNeg)) + 2).toNatClampNeg (z12.1 + 1)) 141 ((4 * (z14.2.1 138 (0 : Int32).toNatClampNeg)) + 3).toNatClampNeg z14.1) 138 (0 : Int32).toNatClampNeg (((jhI (jhI (jhI (jhI (jhL z14.2 139 (z14.2.1 138 (0 : Int32).toNatClampNeg).toNatClampNeg v2) 141 (4 * (z14.2.1 138 (0 : Int32).toNatClampNeg)).toNatClampNeg z8.1) 141 ((4 * (z14.2.1 138 (0 : Int32).toNatClampNeg)) + 1).toNatClampNeg z10.1) 141 ((4 * (z14.2.1 138 (0 : Int32).toNatClampNeg)) + 2).toNatClampNeg (z12.1 + 1)) 141 ((4 * (z14.2.1 138 (0 : Int32).toNatClampNeg)) + 3).toNatClampNeg z14.1).1 138 (0 : Int32).toNatClampNeg) + 1))
  else none)
  else none)
  else none)
  else none)
  else none)
  else none)
  else none)
  else none)
  else none)
  else
  some z14.2)))))))))))))))))
theorem kM_guestTold_j42 {X : jX} {dd : Nat} {p d : Nat} {q : Nat → Nat} {Q : Option Value → jS → Prop} {v2 : Int64} {h : jH}  (hd : 4 ≤ (dd + 1)) {z : jH} (K : fM_guestTold_j42 v2 h = some z) (HQ : Q none (176, jRf p d q, z)) :
    jEx X (dd + 1) jc_203 42 [some (.ref 110), none, some (.long v2), none, none, none, none, none, none] [] (176, jRf p d q, h) Q := by
  unfold fM_guestTold_j42 at K
  refine jx_next (pc := 42) (pc' := 43) rfl rfl ?_
  refine jx_next (pc := 43) (pc' := 44) rfl rfl ?_
  refine jx_getr2 (pc := 44) rfl jko_110 jr_12_15 ?_
  refine jx_callv (pc := 47) (o := 110) (rest := []) rfl ⟨by decide, by decide⟩ rfl jko_110 (Nat.le_of_ble_eq_true rfl) ?_
  obtain ⟨z7, hz_z7, K⟩ := Option.bind_eq_some_iff.mp K
  refine kM_asks  jko_118 (by omega) hz_z7 ?_
  refine jx_next (pc := 50) (pc' := 51) rfl rfl ?_
  refine jx_next (pc := 51) (pc' := 52) rfl rfl ?_
  refine jx_next (pc := 52) (pc' := 54) rfl rfl ?_
  refine jx_callv (pc := 54) (o := 110) (rest := []) rfl ⟨by decide, by decide⟩ rfl jko_110 (Nat.le_of_ble_eq_true rfl) ?_
  obtain ⟨z8, hz_z8, K⟩ := Option.bind_eq_some_iff.mp K
  refine kM_number  (by omega) hz_z8 ?_
  refine jx_sti (pc := 57) (p2 := [some (.ref 110), none, some (.long v2), none, some (.int z8.1), none, none, none, none]) rfl (jlt rfl) rfl ?_
  refine jx_next (pc := 59) (pc' := 60) rfl rfl ?_
  refine jx_next (pc := 60) (pc' := 61) rfl rfl ?_
  refine jx_getr2 (pc := 61) rfl jko_110 jr_12_16 ?_
  refine jx_callv (pc := 64) (o := 110) (rest := []) rfl ⟨by decide, by decide⟩ rfl jko_110 (Nat.le_of_ble_eq_true rfl) ?_
  obtain ⟨z9, hz_z9, K⟩ := Option.bind_eq_some_iff.mp K
  refine kM_asks  jko_119 (by omega) hz_z9 ?_
  refine jx_next (pc := 67) (pc' := 68) rfl rfl ?_
  refine jx_next (pc := 68) (pc' := 69) rfl rfl ?_
  refine jx_next (pc := 69) (pc' := 71) rfl rfl ?_
  refine jx_callv (pc := 71) (o := 110) (rest := []) rfl ⟨by decide, by decide⟩ rfl jko_110 (Nat.le_of_ble_eq_true rfl) ?_
  obtain ⟨z10, hz_z10, K⟩ := Option.bind_eq_some_iff.mp K
  refine kM_number  (by omega) hz_z10 ?_
  refine jx_sti (pc := 74) (p2 := [some (.ref 110), none, some (.long v2), none, some (.int z8.1), some (.int z10.1), none, none, none]) rfl (jlt rfl) rfl ?_
  refine jx_next (pc := 76) (pc' := 77) rfl rfl ?_
  refine jx_next (pc := 77) (pc' := 78) rfl rfl ?_
  refine jx_getr2 (pc := 78) rfl jko_110 jr_12_17 ?_
  refine jx_callv (pc := 81) (o := 110) (rest := []) rfl ⟨by decide, by decide⟩ rfl jko_110 (Nat.le_of_ble_eq_true rfl) ?_
  obtain ⟨z11, hz_z11, K⟩ := Option.bind_eq_some_iff.mp K
  refine kM_asks  jko_120 (by omega) hz_z11 ?_
  refine jx_next (pc := 84) (pc' := 85) rfl rfl ?_
  refine jx_next (pc := 85) (pc' := 86) rfl rfl ?_
  refine jx_next (pc := 86) (pc' := 87) rfl rfl ?_
  refine jx_callv (pc := 87) (o := 110) (rest := []) rfl ⟨by decide, by decide⟩ rfl jko_110 (Nat.le_of_ble_eq_true rfl) ?_
  obtain ⟨z12, hz_z12, K⟩ := Option.bind_eq_some_iff.mp K
  refine kM_number  (by omega) hz_z12 ?_
  refine jx_sti (pc := 90) (p2 := [some (.ref 110), none, some (.long v2), none, some (.int z8.1), some (.int z10.1), some (.int z12.1), none, none]) rfl (jlt rfl) rfl ?_
  refine jx_next (pc := 92) (pc' := 93) rfl rfl ?_
  refine jx_next (pc := 93) (pc' := 94) rfl rfl ?_
  refine jx_getr2 (pc := 94) rfl jko_110 jr_12_18 ?_
  refine jx_callv (pc := 97) (o := 110) (rest := []) rfl ⟨by decide, by decide⟩ rfl jko_110 (Nat.le_of_ble_eq_true rfl) ?_
  obtain ⟨z13, hz_z13, K⟩ := Option.bind_eq_some_iff.mp K
  refine kM_asks  jko_121 (by omega) hz_z13 ?_
  refine jx_next (pc := 100) (pc' := 101) rfl rfl ?_
  refine jx_next (pc := 101) (pc' := 102) rfl rfl ?_
  refine jx_next (pc := 102) (pc' := 104) rfl rfl ?_
  refine jx_callv (pc := 104) (o := 110) (rest := []) rfl ⟨by decide, by decide⟩ rfl jko_110 (Nat.le_of_ble_eq_true rfl) ?_
  obtain ⟨z14, hz_z14, K⟩ := Option.bind_eq_some_iff.mp K
  refine kM_number  (by omega) hz_z14 ?_
  refine jx_sti (pc := 107) (p2 := [some (.ref 110), none, some (.long v2), none, some (.int z8.1), some (.int z10.1), some (.int z12.1), some (.int z14.1), none]) rfl (jlt rfl) rfl ?_
  refine jx_next (pc := 109) (pc' := 110) rfl rfl ?_
  refine jx_geti (pc := 110) rfl jko_110 ?_
  refine jx_ifeq (pc := 113) rfl (fun hc15 => ?_) (fun hc15 => ?_)
  · replace K := (if_pos hc15).symm.trans K
    refine jx_next (pc := 117) (pc' := 118) rfl rfl ?_
    refine jx_next (pc := 118) (pc' := 119) rfl rfl ?_
    refine jx_getr2 (pc := 119) rfl jko_110 jr_12_36 ?_
    refine jx_next (pc := 122) (pc' := 123) rfl rfl ?_
    obtain ⟨hg16, K⟩ := jguard K
    refine jx_iald2 (pc := 123) rfl jko_138 jno_138 hg16 ?_
    refine jx_next (pc := 124) (pc' := 125) rfl rfl ?_
    refine jx_sti (pc := 125) (p2 := [some (.ref 110), none, some (.long v2), none, some (.int z8.1), some (.int z10.1), some (.int z12.1), some (.int z14.1), some (.int (4 * (z14.2.1 138 (0 : Int32).toNatClampNeg)))]) rfl (jlt rfl) rfl ?_
    refine jx_next (pc := 127) (pc' := 128) rfl rfl ?_
    refine jx_getr2 (pc := 128) rfl jko_110 jr_12_37 ?_
    refine jx_next (pc := 131) (pc' := 132) rfl rfl ?_
    refine jx_getr2 (pc := 132) rfl jko_110 jr_12_36 ?_
    refine jx_next (pc := 135) (pc' := 136) rfl rfl ?_
    obtain ⟨hg17, K⟩ := jguard K
    refine jx_iald2 (pc := 136) rfl jko_138 jno_138 hg17 ?_
    refine jx_next (pc := 137) (pc' := 138) rfl rfl ?_
    obtain ⟨hg18, K⟩ := jguard K
    refine jx_last2 (pc := 138) rfl jko_139 jno_139 hg18 ?_
    refine jx_next (pc := 139) (pc' := 140) rfl rfl ?_
    refine jx_getr2 (pc := 140) rfl jko_110 jr_12_39 ?_
    refine jx_next (pc := 143) (pc' := 145) rfl rfl ?_
    refine jx_next (pc := 145) (pc' := 147) rfl rfl ?_
    obtain ⟨hg19, K⟩ := jguard K
    refine jx_iast2 (pc := 147) rfl jko_141 jno_141 hg19 ?_
    refine jx_next (pc := 148) (pc' := 149) rfl rfl ?_
    refine jx_getr2 (pc := 149) rfl jko_110 jr_12_39 ?_
    refine jx_next (pc := 152) (pc' := 154) rfl rfl ?_
    refine jx_next (pc := 154) (pc' := 155) rfl rfl ?_
    refine jx_next (pc := 155) (pc' := 156) rfl rfl ?_
    refine jx_next (pc := 156) (pc' := 158) rfl rfl ?_
    obtain ⟨hg20, K⟩ := jguard K
    refine jx_iast2 (pc := 158) rfl jko_141 jno_141 hg20 ?_
    refine jx_next (pc := 159) (pc' := 160) rfl rfl ?_
    refine jx_getr2 (pc := 160) rfl jko_110 jr_12_39 ?_
    refine jx_next (pc := 163) (pc' := 165) rfl rfl ?_
    refine jx_next (pc := 165) (pc' := 166) rfl rfl ?_
    refine jx_next (pc := 166) (pc' := 167) rfl rfl ?_
    refine jx_next (pc := 167) (pc' := 169) rfl rfl ?_
    refine jx_next (pc := 169) (pc' := 170) rfl rfl ?_
    refine jx_next (pc := 170) (pc' := 171) rfl rfl ?_
    obtain ⟨hg21, K⟩ := jguard K
    refine jx_iast2 (pc := 171) rfl jko_141 jno_141 hg21 ?_
    refine jx_next (pc := 172) (pc' := 173) rfl rfl ?_
    refine jx_getr2 (pc := 173) rfl jko_110 jr_12_39 ?_
    refine jx_next (pc := 176) (pc' := 178) rfl rfl ?_
    refine jx_next (pc := 178) (pc' := 179) rfl rfl ?_
    refine jx_next (pc := 179) (pc' := 180) rfl rfl ?_
    refine jx_next (pc := 180) (pc' := 182) rfl rfl ?_
    obtain ⟨hg22, K⟩ := jguard K
    refine jx_iast2 (pc := 182) rfl jko_141 jno_141 hg22 ?_
    refine jx_next (pc := 183) (pc' := 184) rfl rfl ?_
    refine jx_getr2 (pc := 184) rfl jko_110 jr_12_36 ?_
    refine jx_next (pc := 187) (pc' := 188) rfl rfl ?_
    refine jx_next (pc := 188) (pc' := 189) rfl rfl ?_
    obtain ⟨hg23, K⟩ := jguard K
    refine jx_iald2 (pc := 189) rfl jko_138 jno_138 hg23 ?_
    refine jx_next (pc := 190) (pc' := 191) rfl rfl ?_
    refine jx_next (pc := 191) (pc' := 192) rfl rfl ?_
    obtain ⟨hg24, K⟩ := jguard K
    refine jx_iast2 (pc := 192) rfl jko_138 jno_138 hg24 ?_
    obtain rfl := Option.some.inj K
    exact jx_ret (pc := 193) rfl rfl HQ
  · replace K := (if_neg hc15).symm.trans K
    obtain rfl := Option.some.inj K
    exact jx_ret (pc := 116) rfl rfl HQ
/-- AndGuestModel.guestTold(I)V -/
noncomputable def fM_guestTold (v1 : Int32) (h : jH) : Option jH :=
  (Option.bind (fM_isFull 0 8 v1 h) (fun (z1 : Int32 × jH) =>
  (if z1.1 = 0 then
  (Option.bind (fM_name z1.2) (fun (z3 : Int64 × jH) =>
  (if (z3.2.1 110 5) = 0 then
  (Option.bind (fM_nameOf z3.1 z3.2) (fun (z5 : Int32) =>
  (if z5 = (-1) then
  fM_guestTold_j42  z3.1 z3.2
  else
  fM_guestTold_j42  z3.1 (fM_fail 3 (z3.2.1 110 35) z3.2))))
  else
  fM_guestTold_j42  z3.1 z3.2)))
  else
  some z1.2)))
theorem kM_guestTold {X : jX} {dd : Nat} {p d : Nat} {q : Nat → Nat} {Q : Option Value → jS → Prop} {v1 : Int32} {h : jH}  (hd : 4 ≤ dd) {z : jH} (K : fM_guestTold v1 h = some z) (HQ : Q none (176, jRf p d q, z)) :
    jCa X dd 203 [.ref 110, .int v1] (176, jRf p d q, h) Q := by
  obtain ⟨dd, rfl⟩ : ∃ d9, dd = d9 + 1 := ⟨dd - 1, by omega⟩
  unfold fM_guestTold at K
  refine jCa_of (es := jc_203) (pl := [some (.ref 110), some (.int v1), none, none, none, none, none, none, none]) (M := jm_203) rfl rfl rfl rfl ?_
  refine jx_next (pc := 0) (pc' := 1) rfl rfl ?_
  refine jx_next (pc := 1) (pc' := 2) rfl rfl ?_
  refine jx_next (pc := 2) (pc' := 4) rfl rfl ?_
  refine jx_next (pc := 4) (pc' := 5) rfl rfl ?_
  refine jx_callv (pc := 5) (o := 110) (rest := []) rfl ⟨by decide, by decide⟩ rfl jko_110 (Nat.le_of_ble_eq_true rfl) ?_
  obtain ⟨z1, hz_z1, K⟩ := Option.bind_eq_some_iff.mp K
  refine kM_isFull  (by omega) hz_z1 ?_
  refine jx_ifeq (pc := 8) rfl (fun hc2 => ?_) (fun hc2 => ?_)
  · replace K := (if_pos hc2).symm.trans K
    refine jx_next (pc := 12) (pc' := 13) rfl rfl ?_
    refine jx_callv (pc := 13) (o := 110) (rest := []) rfl ⟨by decide, by decide⟩ rfl jko_110 (Nat.le_of_ble_eq_true rfl) ?_
    obtain ⟨z3, hz_z3, K⟩ := Option.bind_eq_some_iff.mp K
    refine kM_name  (by omega) hz_z3 ?_
    refine jx_stln (pc := 16) (p2 := [some (.ref 110), some (.int v1), some (.long z3.1), none, none, none, none, none, none]) rfl (jlt rfl) rfl ?_
    refine jx_next (pc := 17) (pc' := 18) rfl rfl ?_
    refine jx_geti (pc := 18) rfl jko_110 ?_
    refine jx_ifne (pc := 21) rfl (fun hc4 => ?_) (fun hc4 => ?_)
    · replace K := (if_pos hc4).symm.trans K
      refine jx_next (pc := 24) (pc' := 25) rfl rfl ?_
      refine jx_next (pc := 25) (pc' := 26) rfl rfl ?_
      refine jx_callv (pc := 26) (o := 110) (rest := []) rfl ⟨by decide, by decide⟩ rfl jko_110 (Nat.le_of_ble_eq_true rfl) ?_
      obtain ⟨z5, hz_z5, K⟩ := Option.bind_eq_some_iff.mp K
      refine kM_nameOf  (by omega) hz_z5 ?_
      refine jx_next (pc := 29) (pc' := 30) rfl rfl ?_
      refine jx_iceq (pc := 30) rfl (fun hc6 => ?_) (fun hc6 => ?_)
      · replace K := (if_pos hc6).symm.trans K
        refine jx_le (pl' := [some (.ref 110), none, some (.long z3.1), none, none, none, none, none, none]) (jle_v (jle_n (jle_v (jle_n (jle_n (jle_n (jle_n (jle_n (jle_n jle_nil))))))))) ?_
        exact kM_guestTold_j42  hd K HQ
      · replace K := (if_neg hc6).symm.trans K
        refine jx_next (pc := 33) (pc' := 34) rfl rfl ?_
        refine jx_next (pc := 34) (pc' := 35) rfl rfl ?_
        refine jx_next (pc := 35) (pc' := 36) rfl rfl ?_
        refine jx_geti (pc := 36) rfl jko_110 ?_
        refine jx_callv (pc := 39) (o := 110) (rest := []) rfl ⟨by decide, by decide⟩ rfl jko_110 (Nat.le_of_ble_eq_true rfl) ?_
        refine kM_fail  (by omega) rfl ?_
        refine jx_le (pl' := [some (.ref 110), none, some (.long z3.1), none, none, none, none, none, none]) (jle_v (jle_n (jle_v (jle_n (jle_n (jle_n (jle_n (jle_n (jle_n jle_nil))))))))) ?_
        exact kM_guestTold_j42  hd K HQ
    · replace K := (if_neg hc4).symm.trans K
      refine jx_le (pl' := [some (.ref 110), none, some (.long z3.1), none, none, none, none, none, none]) (jle_v (jle_n (jle_v (jle_n (jle_n (jle_n (jle_n (jle_n (jle_n jle_nil))))))))) ?_
      exact kM_guestTold_j42  hd K HQ
  · replace K := (if_neg hc2).symm.trans K
    obtain rfl := Option.some.inj K
    exact jx_ret (pc := 11) rfl rfl HQ
noncomputable def fM_guestHere_j32 (v3 : Int32) (h : jH) : Option (Int32 × jH) :=
  (if (h.1 110 5) = 0 then
  some (v3, h)
  else
  some (0, h))
theorem kM_guestHere_j32 {X : jX} {dd : Nat} {p d : Nat} {q : Nat → Nat} {Q : Option Value → jS → Prop} {v3 : Int32} {h : jH}  (hd : 4 ≤ (dd + 1)) {z : Int32 × jH} (K : fM_guestHere_j32 v3 h = some z) (HQ : Q (some (.int z.1)) (176, jRf p d q, z.2)) :
    jEx X (dd + 1) jc_209 32 [some (.ref 110), none, none, some (.int v3)] [] (176, jRf p d q, h) Q := by
  unfold fM_guestHere_j32 at K
  refine jx_next (pc := 32) (pc' := 33) rfl rfl ?_
  refine jx_geti (pc := 33) rfl jko_110 ?_
  refine jx_ifne (pc := 36) rfl (fun hc6 => ?_) (fun hc6 => ?_)
  · replace K := (if_pos hc6).symm.trans K
    refine jx_next (pc := 39) (pc' := 40) rfl rfl ?_
    refine jx_next (pc := 40) (pc' := 44) rfl rfl ?_
    obtain rfl := Option.some.inj K
    exact jx_iret (pc := 44) rfl HQ
  · replace K := (if_neg hc6).symm.trans K
    refine jx_next (pc := 43) (pc' := 44) rfl rfl ?_
    obtain rfl := Option.some.inj K
    exact jx_iret (pc := 44) rfl HQ
/-- AndGuestModel.guestHere()I -/
noncomputable def fM_guestHere  (h : jH) : Option (Int32 × jH) :=
  (Option.bind (fM_name h) (fun (z1 : Int64 × jH) =>
  (Option.bind (fM_nameOf z1.1 z1.2) (fun (z2 : Int32) =>
  (if (z1.2.1 110 5) = 0 then
  (if z2 = (-1) then
  fM_guestHere_j32  z2 (fM_fail 3 (z1.2.1 110 35) z1.2)
  else
  fM_guestHere_j32  z2 z1.2)
  else
  fM_guestHere_j32  z2 z1.2)))))
theorem kM_guestHere {X : jX} {dd : Nat} {p d : Nat} {q : Nat → Nat} {Q : Option Value → jS → Prop}  {h : jH}  (hd : 4 ≤ dd) {z : Int32 × jH} (K : fM_guestHere  h = some z) (HQ : Q (some (.int z.1)) (176, jRf p d q, z.2)) :
    jCa X dd 209 [.ref 110] (176, jRf p d q, h) Q := by
  obtain ⟨dd, rfl⟩ : ∃ d9, dd = d9 + 1 := ⟨dd - 1, by omega⟩
  unfold fM_guestHere at K
  refine jCa_of (es := jc_209) (pl := [some (.ref 110), none, none, none]) (M := jm_209) rfl rfl rfl rfl ?_
  refine jx_next (pc := 0) (pc' := 1) rfl rfl ?_
  refine jx_callv (pc := 1) (o := 110) (rest := []) rfl ⟨by decide, by decide⟩ rfl jko_110 (Nat.le_of_ble_eq_true rfl) ?_
  obtain ⟨z1, hz_z1, K⟩ := Option.bind_eq_some_iff.mp K
  refine kM_name  (by omega) hz_z1 ?_
  refine jx_stln (pc := 4) (p2 := [some (.ref 110), some (.long z1.1), none, none]) rfl (jlt rfl) rfl ?_
  refine jx_next (pc := 5) (pc' := 6) rfl rfl ?_
  refine jx_next (pc := 6) (pc' := 7) rfl rfl ?_
  refine jx_callv (pc := 7) (o := 110) (rest := []) rfl ⟨by decide, by decide⟩ rfl jko_110 (Nat.le_of_ble_eq_true rfl) ?_
  obtain ⟨z2, hz_z2, K⟩ := Option.bind_eq_some_iff.mp K
  refine kM_nameOf  (by omega) hz_z2 ?_
  refine jx_stin (pc := 10) (p2 := [some (.ref 110), some (.long z1.1), none, some (.int z2)]) rfl (jlt rfl) rfl ?_
  refine jx_next (pc := 11) (pc' := 12) rfl rfl ?_
  refine jx_geti (pc := 12) rfl jko_110 ?_
  refine jx_ifne (pc := 15) rfl (fun hc3 => ?_) (fun hc3 => ?_)
  · replace K := (if_pos hc3).symm.trans K
    refine jx_next (pc := 18) (pc' := 19) rfl rfl ?_
    refine jx_next (pc := 19) (pc' := 20) rfl rfl ?_
    refine jx_icne (pc := 20) rfl (fun hc4 => ?_) (fun hc4 => ?_)
    · replace K := (if_pos hc4).symm.trans K
      refine jx_next (pc := 23) (pc' := 24) rfl rfl ?_
      refine jx_next (pc := 24) (pc' := 25) rfl rfl ?_
      refine jx_next (pc := 25) (pc' := 26) rfl rfl ?_
      refine jx_geti (pc := 26) rfl jko_110 ?_
      refine jx_callv (pc := 29) (o := 110) (rest := []) rfl ⟨by decide, by decide⟩ rfl jko_110 (Nat.le_of_ble_eq_true rfl) ?_
      refine kM_fail  (by omega) rfl ?_
      refine jx_le (pl' := [some (.ref 110), none, none, some (.int z2)]) (jle_v (jle_n (jle_n (jle_v jle_nil)))) ?_
      exact kM_guestHere_j32  hd K HQ
    · replace K := (if_neg hc4).symm.trans K
      refine jx_le (pl' := [some (.ref 110), none, none, some (.int z2)]) (jle_v (jle_n (jle_n (jle_v jle_nil)))) ?_
      exact kM_guestHere_j32  hd K HQ
  · replace K := (if_neg hc3).symm.trans K
    refine jx_le (pl' := [some (.ref 110), none, none, some (.int z2)]) (jle_v (jle_n (jle_n (jle_v jle_nil)))) ?_
    exact kM_guestHere_j32  hd K HQ
noncomputable def fM_pullTold_j57 (v2 : Int32) (v3 : Int32) (h : jH) : Option jH :=
  (if (h.1 110 5) = 0 then
  (if jin v2 16 then
  (if jin v2 16 then
  (if jin 1 6 then
  (if jin 1 6 then
  some (jhI (jhI h 142 v2.toNatClampNeg ((h.1 142 v2.toNatClampNeg) ||| (1 <<< (v3 &&& 31)))) 138 (1 : Int32).toNatClampNeg (((jhI h 142 v2.toNatClampNeg ((h.1 142 v2.toNatClampNeg) ||| (1 <<< (v3 &&& 31)))).1 138 (1 : Int32).toNatClampNeg) + 1))
  else none)
  else none)
  else none)
  else none)
  else
  some h)
theorem kM_pullTold_j57 {X : jX} {dd : Nat} {p d : Nat} {q : Nat → Nat} {Q : Option Value → jS → Prop} {v2 : Int32} {v3 : Int32} {h : jH}  (hd : 5 ≤ (dd + 1)) {z : jH} (K : fM_pullTold_j57 v2 v3 h = some z) (HQ : Q none (176, jRf p d q, z)) :
    jEx X (dd + 1) jc_208 57 [some (.ref 110), none, some (.int v2), some (.int v3)] [] (176, jRf p d q, h) Q := by
  unfold fM_pullTold_j57 at K
  refine jx_next (pc := 57) (pc' := 58) rfl rfl ?_
  refine jx_geti (pc := 58) rfl jko_110 ?_
  refine jx_ifeq (pc := 61) rfl (fun hc8 => ?_) (fun hc8 => ?_)
  · replace K := (if_pos hc8).symm.trans K
    refine jx_next (pc := 65) (pc' := 66) rfl rfl ?_
    refine jx_getr2 (pc := 66) rfl jko_110 jr_12_40 ?_
    refine jx_next (pc := 69) (pc' := 70) rfl rfl ?_
    refine jx_next (pc := 70) (pc' := 71) rfl rfl ?_
    obtain ⟨hg9, K⟩ := jguard K
    refine jx_iald2 (pc := 71) rfl jko_142 jno_142 hg9 ?_
    refine jx_next (pc := 72) (pc' := 73) rfl rfl ?_
    refine jx_next (pc := 73) (pc' := 74) rfl rfl ?_
    refine jx_next (pc := 74) (pc' := 75) rfl rfl ?_
    refine jx_next (pc := 75) (pc' := 76) rfl rfl ?_
    obtain ⟨hg10, K⟩ := jguard K
    refine jx_iast2 (pc := 76) rfl jko_142 jno_142 hg10 ?_
    refine jx_next (pc := 77) (pc' := 78) rfl rfl ?_
    refine jx_getr2 (pc := 78) rfl jko_110 jr_12_36 ?_
    refine jx_next (pc := 81) (pc' := 82) rfl rfl ?_
    refine jx_next (pc := 82) (pc' := 83) rfl rfl ?_
    obtain ⟨hg11, K⟩ := jguard K
    refine jx_iald2 (pc := 83) rfl jko_138 jno_138 hg11 ?_
    refine jx_next (pc := 84) (pc' := 85) rfl rfl ?_
    refine jx_next (pc := 85) (pc' := 86) rfl rfl ?_
    obtain ⟨hg12, K⟩ := jguard K
    refine jx_iast2 (pc := 86) rfl jko_138 jno_138 hg12 ?_
    obtain rfl := Option.some.inj K
    exact jx_ret (pc := 87) rfl rfl HQ
  · replace K := (if_neg hc8).symm.trans K
    obtain rfl := Option.some.inj K
    exact jx_ret (pc := 64) rfl rfl HQ
noncomputable def fM_pullTold_j48 (v2 : Int32) (v3 : Int32) (h : jH) : Option jH :=
  fM_pullTold_j57  v2 v3 (fM_fail 3 (h.1 110 35) h)
theorem kM_pullTold_j48 {X : jX} {dd : Nat} {p d : Nat} {q : Nat → Nat} {Q : Option Value → jS → Prop} {v2 : Int32} {v3 : Int32} {h : jH}  (hd : 5 ≤ (dd + 1)) {z : jH} (K : fM_pullTold_j48 v2 v3 h = some z) (HQ : Q none (176, jRf p d q, z)) :
    jEx X (dd + 1) jc_208 48 [some (.ref 110), none, some (.int v2), some (.int v3)] [] (176, jRf p d q, h) Q := by
  unfold fM_pullTold_j48 at K
  refine jx_next (pc := 48) (pc' := 49) rfl rfl ?_
  refine jx_next (pc := 49) (pc' := 50) rfl rfl ?_
  refine jx_next (pc := 50) (pc' := 51) rfl rfl ?_
  refine jx_geti (pc := 51) rfl jko_110 ?_
  refine jx_callv (pc := 54) (o := 110) (rest := []) rfl ⟨by decide, by decide⟩ rfl jko_110 (Nat.le_of_ble_eq_true rfl) ?_
  refine kM_fail  (by omega) rfl ?_
  refine jx_le (pl' := [some (.ref 110), none, some (.int v2), some (.int v3)]) (jle_v (jle_n (jle_v (jle_v jle_nil)))) ?_
  exact kM_pullTold_j57  hd K HQ
/-- AndGuestModel.pullTold(I)V -/
noncomputable def fM_pullTold (v1 : Int32) (h : jH) : Option jH :=
  (Option.bind (fM_isFull 1 16 v1 h) (fun (z1 : Int32 × jH) =>
  (if z1.1 = 0 then
  (Option.bind (fM_guestHere z1.2) (fun (z3 : Int32 × jH) =>
  (Option.bind (fM_guestHere z3.2) (fun (z4 : Int32 × jH) =>
  (if (z4.2.1 110 5) = 0 then
  (if z3.1 = z4.1 then
  fM_pullTold_j48  z3.1 z4.1 z4.2
  else
  (if jin z3.1 16 then
  (if (((z4.2.1 142 z3.1.toNatClampNeg) >>> (z4.1 &&& 31)) &&& 1) = 1 then
  fM_pullTold_j48  z3.1 z4.1 z4.2
  else
  fM_pullTold_j57  z3.1 z4.1 z4.2)
  else none))
  else
  fM_pullTold_j57  z3.1 z4.1 z4.2)))))
  else
  some z1.2)))
theorem kM_pullTold {X : jX} {dd : Nat} {p d : Nat} {q : Nat → Nat} {Q : Option Value → jS → Prop} {v1 : Int32} {h : jH}  (hd : 5 ≤ dd) {z : jH} (K : fM_pullTold v1 h = some z) (HQ : Q none (176, jRf p d q, z)) :
    jCa X dd 208 [.ref 110, .int v1] (176, jRf p d q, h) Q := by
  obtain ⟨dd, rfl⟩ : ∃ d9, dd = d9 + 1 := ⟨dd - 1, by omega⟩
  unfold fM_pullTold at K
  refine jCa_of (es := jc_208) (pl := [some (.ref 110), some (.int v1), none, none]) (M := jm_208) rfl rfl rfl rfl ?_
  refine jx_next (pc := 0) (pc' := 1) rfl rfl ?_
  refine jx_next (pc := 1) (pc' := 2) rfl rfl ?_
  refine jx_next (pc := 2) (pc' := 4) rfl rfl ?_
  refine jx_next (pc := 4) (pc' := 5) rfl rfl ?_
  refine jx_callv (pc := 5) (o := 110) (rest := []) rfl ⟨by decide, by decide⟩ rfl jko_110 (Nat.le_of_ble_eq_true rfl) ?_
  obtain ⟨z1, hz_z1, K⟩ := Option.bind_eq_some_iff.mp K
  refine kM_isFull  (by omega) hz_z1 ?_
  refine jx_ifeq (pc := 8) rfl (fun hc2 => ?_) (fun hc2 => ?_)
  · replace K := (if_pos hc2).symm.trans K
    refine jx_next (pc := 12) (pc' := 13) rfl rfl ?_
    refine jx_callv (pc := 13) (o := 110) (rest := []) rfl ⟨by decide, by decide⟩ rfl jko_110 (Nat.le_of_ble_eq_true rfl) ?_
    obtain ⟨z3, hz_z3, K⟩ := Option.bind_eq_some_iff.mp K
    refine kM_guestHere  (by omega) hz_z3 ?_
    refine jx_stin (pc := 16) (p2 := [some (.ref 110), some (.int v1), some (.int z3.1), none]) rfl (jlt rfl) rfl ?_
    refine jx_next (pc := 17) (pc' := 18) rfl rfl ?_
    refine jx_callv (pc := 18) (o := 110) (rest := []) rfl ⟨by decide, by decide⟩ rfl jko_110 (Nat.le_of_ble_eq_true rfl) ?_
    obtain ⟨z4, hz_z4, K⟩ := Option.bind_eq_some_iff.mp K
    refine kM_guestHere  (by omega) hz_z4 ?_
    refine jx_stin (pc := 21) (p2 := [some (.ref 110), some (.int v1), some (.int z3.1), some (.int z4.1)]) rfl (jlt rfl) rfl ?_
    refine jx_next (pc := 22) (pc' := 23) rfl rfl ?_
    refine jx_geti (pc := 23) rfl jko_110 ?_
    refine jx_ifne (pc := 26) rfl (fun hc5 => ?_) (fun hc5 => ?_)
    · replace K := (if_pos hc5).symm.trans K
      refine jx_next (pc := 29) (pc' := 30) rfl rfl ?_
      refine jx_next (pc := 30) (pc' := 31) rfl rfl ?_
      refine jx_iceq (pc := 31) rfl (fun hc6 => ?_) (fun hc6 => ?_)
      · replace K := (if_pos hc6).symm.trans K
        refine jx_le (pl' := [some (.ref 110), none, some (.int z3.1), some (.int z4.1)]) (jle_v (jle_n (jle_v (jle_v jle_nil)))) ?_
        exact kM_pullTold_j48  hd K HQ
      · replace K := (if_neg hc6).symm.trans K
        refine jx_next (pc := 34) (pc' := 35) rfl rfl ?_
        refine jx_getr2 (pc := 35) rfl jko_110 jr_12_40 ?_
        refine jx_next (pc := 38) (pc' := 39) rfl rfl ?_
        obtain ⟨hg13, K⟩ := jguard K
        refine jx_iald2 (pc := 39) rfl jko_142 jno_142 hg13 ?_
        refine jx_next (pc := 40) (pc' := 41) rfl rfl ?_
        refine jx_next (pc := 41) (pc' := 42) rfl rfl ?_
        refine jx_next (pc := 42) (pc' := 43) rfl rfl ?_
        refine jx_next (pc := 43) (pc' := 44) rfl rfl ?_
        refine jx_next (pc := 44) (pc' := 45) rfl rfl ?_
        refine jx_icne (pc := 45) rfl (fun hc14 => ?_) (fun hc14 => ?_)
        · replace K := (if_pos hc14).symm.trans K
          refine jx_le (pl' := [some (.ref 110), none, some (.int z3.1), some (.int z4.1)]) (jle_v (jle_n (jle_v (jle_v jle_nil)))) ?_
          exact kM_pullTold_j48  hd K HQ
        · replace K := (if_neg hc14).symm.trans K
          refine jx_le (pl' := [some (.ref 110), none, some (.int z3.1), some (.int z4.1)]) (jle_v (jle_n (jle_v (jle_v jle_nil)))) ?_
          exact kM_pullTold_j57  hd K HQ
    · replace K := (if_neg hc5).symm.trans K
      refine jx_le (pl' := [some (.ref 110), none, some (.int z3.1), some (.int z4.1)]) (jle_v (jle_n (jle_v (jle_v jle_nil)))) ?_
      exact kM_pullTold_j57  hd K HQ
  · replace K := (if_neg hc2).symm.trans K
    obtain rfl := Option.some.inj K
    exact jx_ret (pc := 11) rfl rfl HQ
noncomputable def fM_hearTold_j57 (v2 : Int32) (v3 : Int32) (h : jH) : Option jH :=
  (if (h.1 110 5) = 0 then
  (if jin v2 16 then
  (if jin v2 16 then
  (if jin 2 6 then
  (if jin 2 6 then
  some (jhI (jhI h 143 v2.toNatClampNeg ((h.1 143 v2.toNatClampNeg) ||| (1 <<< (v3 &&& 31)))) 138 (2 : Int32).toNatClampNeg (((jhI h 143 v2.toNatClampNeg ((h.1 143 v2.toNatClampNeg) ||| (1 <<< (v3 &&& 31)))).1 138 (2 : Int32).toNatClampNeg) + 1))
  else none)
  else none)
  else none)
  else none)
  else
  some h)
theorem kM_hearTold_j57 {X : jX} {dd : Nat} {p d : Nat} {q : Nat → Nat} {Q : Option Value → jS → Prop} {v2 : Int32} {v3 : Int32} {h : jH}  (hd : 5 ≤ (dd + 1)) {z : jH} (K : fM_hearTold_j57 v2 v3 h = some z) (HQ : Q none (176, jRf p d q, z)) :
    jEx X (dd + 1) jc_210 57 [some (.ref 110), none, some (.int v2), some (.int v3)] [] (176, jRf p d q, h) Q := by
  unfold fM_hearTold_j57 at K
  refine jx_next (pc := 57) (pc' := 58) rfl rfl ?_
  refine jx_geti (pc := 58) rfl jko_110 ?_
  refine jx_ifeq (pc := 61) rfl (fun hc8 => ?_) (fun hc8 => ?_)
  · replace K := (if_pos hc8).symm.trans K
    refine jx_next (pc := 65) (pc' := 66) rfl rfl ?_
    refine jx_getr2 (pc := 66) rfl jko_110 jr_12_41 ?_
    refine jx_next (pc := 69) (pc' := 70) rfl rfl ?_
    refine jx_next (pc := 70) (pc' := 71) rfl rfl ?_
    obtain ⟨hg9, K⟩ := jguard K
    refine jx_iald2 (pc := 71) rfl jko_143 jno_143 hg9 ?_
    refine jx_next (pc := 72) (pc' := 73) rfl rfl ?_
    refine jx_next (pc := 73) (pc' := 74) rfl rfl ?_
    refine jx_next (pc := 74) (pc' := 75) rfl rfl ?_
    refine jx_next (pc := 75) (pc' := 76) rfl rfl ?_
    obtain ⟨hg10, K⟩ := jguard K
    refine jx_iast2 (pc := 76) rfl jko_143 jno_143 hg10 ?_
    refine jx_next (pc := 77) (pc' := 78) rfl rfl ?_
    refine jx_getr2 (pc := 78) rfl jko_110 jr_12_36 ?_
    refine jx_next (pc := 81) (pc' := 82) rfl rfl ?_
    refine jx_next (pc := 82) (pc' := 83) rfl rfl ?_
    obtain ⟨hg11, K⟩ := jguard K
    refine jx_iald2 (pc := 83) rfl jko_138 jno_138 hg11 ?_
    refine jx_next (pc := 84) (pc' := 85) rfl rfl ?_
    refine jx_next (pc := 85) (pc' := 86) rfl rfl ?_
    obtain ⟨hg12, K⟩ := jguard K
    refine jx_iast2 (pc := 86) rfl jko_138 jno_138 hg12 ?_
    obtain rfl := Option.some.inj K
    exact jx_ret (pc := 87) rfl rfl HQ
  · replace K := (if_neg hc8).symm.trans K
    obtain rfl := Option.some.inj K
    exact jx_ret (pc := 64) rfl rfl HQ
noncomputable def fM_hearTold_j48 (v2 : Int32) (v3 : Int32) (h : jH) : Option jH :=
  fM_hearTold_j57  v2 v3 (fM_fail 3 (h.1 110 35) h)
theorem kM_hearTold_j48 {X : jX} {dd : Nat} {p d : Nat} {q : Nat → Nat} {Q : Option Value → jS → Prop} {v2 : Int32} {v3 : Int32} {h : jH}  (hd : 5 ≤ (dd + 1)) {z : jH} (K : fM_hearTold_j48 v2 v3 h = some z) (HQ : Q none (176, jRf p d q, z)) :
    jEx X (dd + 1) jc_210 48 [some (.ref 110), none, some (.int v2), some (.int v3)] [] (176, jRf p d q, h) Q := by
  unfold fM_hearTold_j48 at K
  refine jx_next (pc := 48) (pc' := 49) rfl rfl ?_
  refine jx_next (pc := 49) (pc' := 50) rfl rfl ?_
  refine jx_next (pc := 50) (pc' := 51) rfl rfl ?_
  refine jx_geti (pc := 51) rfl jko_110 ?_
  refine jx_callv (pc := 54) (o := 110) (rest := []) rfl ⟨by decide, by decide⟩ rfl jko_110 (Nat.le_of_ble_eq_true rfl) ?_
  refine kM_fail  (by omega) rfl ?_
  refine jx_le (pl' := [some (.ref 110), none, some (.int v2), some (.int v3)]) (jle_v (jle_n (jle_v (jle_v jle_nil)))) ?_
  exact kM_hearTold_j57  hd K HQ
/-- AndGuestModel.hearTold(I)V -/
noncomputable def fM_hearTold (v1 : Int32) (h : jH) : Option jH :=
  (Option.bind (fM_isFull 2 24 v1 h) (fun (z1 : Int32 × jH) =>
  (if z1.1 = 0 then
  (Option.bind (fM_guestHere z1.2) (fun (z3 : Int32 × jH) =>
  (Option.bind (fM_guestHere z3.2) (fun (z4 : Int32 × jH) =>
  (if (z4.2.1 110 5) = 0 then
  (if z3.1 = z4.1 then
  fM_hearTold_j48  z3.1 z4.1 z4.2
  else
  (if jin z3.1 16 then
  (if (((z4.2.1 143 z3.1.toNatClampNeg) >>> (z4.1 &&& 31)) &&& 1) = 1 then
  fM_hearTold_j48  z3.1 z4.1 z4.2
  else
  fM_hearTold_j57  z3.1 z4.1 z4.2)
  else none))
  else
  fM_hearTold_j57  z3.1 z4.1 z4.2)))))
  else
  some z1.2)))
theorem kM_hearTold {X : jX} {dd : Nat} {p d : Nat} {q : Nat → Nat} {Q : Option Value → jS → Prop} {v1 : Int32} {h : jH}  (hd : 5 ≤ dd) {z : jH} (K : fM_hearTold v1 h = some z) (HQ : Q none (176, jRf p d q, z)) :
    jCa X dd 210 [.ref 110, .int v1] (176, jRf p d q, h) Q := by
  obtain ⟨dd, rfl⟩ : ∃ d9, dd = d9 + 1 := ⟨dd - 1, by omega⟩
  unfold fM_hearTold at K
  refine jCa_of (es := jc_210) (pl := [some (.ref 110), some (.int v1), none, none]) (M := jm_210) rfl rfl rfl rfl ?_
  refine jx_next (pc := 0) (pc' := 1) rfl rfl ?_
  refine jx_next (pc := 1) (pc' := 2) rfl rfl ?_
  refine jx_next (pc := 2) (pc' := 4) rfl rfl ?_
  refine jx_next (pc := 4) (pc' := 5) rfl rfl ?_
  refine jx_callv (pc := 5) (o := 110) (rest := []) rfl ⟨by decide, by decide⟩ rfl jko_110 (Nat.le_of_ble_eq_true rfl) ?_
  obtain ⟨z1, hz_z1, K⟩ := Option.bind_eq_some_iff.mp K
  refine kM_isFull  (by omega) hz_z1 ?_
  refine jx_ifeq (pc := 8) rfl (fun hc2 => ?_) (fun hc2 => ?_)
  · replace K := (if_pos hc2).symm.trans K
    refine jx_next (pc := 12) (pc' := 13) rfl rfl ?_
    refine jx_callv (pc := 13) (o := 110) (rest := []) rfl ⟨by decide, by decide⟩ rfl jko_110 (Nat.le_of_ble_eq_true rfl) ?_
    obtain ⟨z3, hz_z3, K⟩ := Option.bind_eq_some_iff.mp K
    refine kM_guestHere  (by omega) hz_z3 ?_
    refine jx_stin (pc := 16) (p2 := [some (.ref 110), some (.int v1), some (.int z3.1), none]) rfl (jlt rfl) rfl ?_
    refine jx_next (pc := 17) (pc' := 18) rfl rfl ?_
    refine jx_callv (pc := 18) (o := 110) (rest := []) rfl ⟨by decide, by decide⟩ rfl jko_110 (Nat.le_of_ble_eq_true rfl) ?_
    obtain ⟨z4, hz_z4, K⟩ := Option.bind_eq_some_iff.mp K
    refine kM_guestHere  (by omega) hz_z4 ?_
    refine jx_stin (pc := 21) (p2 := [some (.ref 110), some (.int v1), some (.int z3.1), some (.int z4.1)]) rfl (jlt rfl) rfl ?_
    refine jx_next (pc := 22) (pc' := 23) rfl rfl ?_
    refine jx_geti (pc := 23) rfl jko_110 ?_
    refine jx_ifne (pc := 26) rfl (fun hc5 => ?_) (fun hc5 => ?_)
    · replace K := (if_pos hc5).symm.trans K
      refine jx_next (pc := 29) (pc' := 30) rfl rfl ?_
      refine jx_next (pc := 30) (pc' := 31) rfl rfl ?_
      refine jx_iceq (pc := 31) rfl (fun hc6 => ?_) (fun hc6 => ?_)
      · replace K := (if_pos hc6).symm.trans K
        refine jx_le (pl' := [some (.ref 110), none, some (.int z3.1), some (.int z4.1)]) (jle_v (jle_n (jle_v (jle_v jle_nil)))) ?_
        exact kM_hearTold_j48  hd K HQ
      · replace K := (if_neg hc6).symm.trans K
        refine jx_next (pc := 34) (pc' := 35) rfl rfl ?_
        refine jx_getr2 (pc := 35) rfl jko_110 jr_12_41 ?_
        refine jx_next (pc := 38) (pc' := 39) rfl rfl ?_
        obtain ⟨hg13, K⟩ := jguard K
        refine jx_iald2 (pc := 39) rfl jko_143 jno_143 hg13 ?_
        refine jx_next (pc := 40) (pc' := 41) rfl rfl ?_
        refine jx_next (pc := 41) (pc' := 42) rfl rfl ?_
        refine jx_next (pc := 42) (pc' := 43) rfl rfl ?_
        refine jx_next (pc := 43) (pc' := 44) rfl rfl ?_
        refine jx_next (pc := 44) (pc' := 45) rfl rfl ?_
        refine jx_icne (pc := 45) rfl (fun hc14 => ?_) (fun hc14 => ?_)
        · replace K := (if_pos hc14).symm.trans K
          refine jx_le (pl' := [some (.ref 110), none, some (.int z3.1), some (.int z4.1)]) (jle_v (jle_n (jle_v (jle_v jle_nil)))) ?_
          exact kM_hearTold_j48  hd K HQ
        · replace K := (if_neg hc14).symm.trans K
          refine jx_le (pl' := [some (.ref 110), none, some (.int z3.1), some (.int z4.1)]) (jle_v (jle_n (jle_v (jle_v jle_nil)))) ?_
          exact kM_hearTold_j57  hd K HQ
    · replace K := (if_neg hc5).symm.trans K
      refine jx_le (pl' := [some (.ref 110), none, some (.int z3.1), some (.int z4.1)]) (jle_v (jle_n (jle_v (jle_v jle_nil)))) ?_
      exact kM_hearTold_j57  hd K HQ
  · replace K := (if_neg hc2).symm.trans K
    obtain rfl := Option.some.inj K
    exact jx_ret (pc := 11) rfl rfl HQ
/-- AndGuestModel.qWordHere()I -/
noncomputable def fM_qWordHere  (h : jH) : Option (Int32 × jH) :=
  (Option.bind (fM_isHere 165 h) (fun (z1 : Int32 × jH) =>
  (if z1.1 = 0 then
  (Option.bind (fM_isHere 166 z1.2) (fun (z3 : Int32 × jH) =>
  (if z3.1 = 0 then
  (Option.bind (fM_isHere 167 z3.2) (fun (z5 : Int32 × jH) =>
  (if z5.1 = 0 then
  (Option.bind (fM_isHere 168 z5.2) (fun (z7 : Int32 × jH) =>
  (if z7.1 = 0 then
  (Option.bind (fM_isHere 169 z7.2) (fun (z9 : Int32 × jH) =>
  (if z9.1 = 0 then
  (Option.bind (fM_isHere 170 z9.2) (fun (z11 : Int32 × jH) =>
  (if z11.1 = 0 then
  (Option.bind (fM_isHere 171 z11.2) (fun (z13 : Int32 × jH) =>
  (if z13.1 = 0 then
  (Option.bind (fM_isHere 172 z13.2) (fun (z15 : Int32 × jH) =>
  (if z15.1 = 0 then
  some ((-1), z15.2)
  else
  some (7, z15.2))))
  else
  some (6, z13.2))))
  else
  some (5, z11.2))))
  else
  some (4, z9.2))))
  else
  some (3, z7.2))))
  else
  some (2, z5.2))))
  else
  some (1, z3.2))))
  else
  some (0, z1.2))))
theorem kM_qWordHere {X : jX} {dd : Nat} {p d : Nat} {q : Nat → Nat} {Q : Option Value → jS → Prop}  {h : jH}  (hd : 2 ≤ dd) {z : Int32 × jH} (K : fM_qWordHere  h = some z) (HQ : Q (some (.int z.1)) (176, jRf p d q, z.2)) :
    jCa X dd 215 [.ref 110] (176, jRf p d q, h) Q := by
  obtain ⟨dd, rfl⟩ : ∃ d9, dd = d9 + 1 := ⟨dd - 1, by omega⟩
  unfold fM_qWordHere at K
  refine jCa_of (es := jc_215) (pl := [some (.ref 110)]) (M := jm_215) rfl rfl rfl rfl ?_
  refine jx_next (pc := 0) (pc' := 1) rfl rfl ?_
  refine jx_next (pc := 1) (pc' := 2) rfl rfl ?_
  refine jx_getr2 (pc := 2) rfl jko_110 jr_12_71 ?_
  refine jx_callv (pc := 5) (o := 110) (rest := []) rfl ⟨by decide, by decide⟩ rfl jko_110 (Nat.le_of_ble_eq_true rfl) ?_
  obtain ⟨z1, hz_z1, K⟩ := Option.bind_eq_some_iff.mp K
  refine kM_isHere  jko_165 (by omega) hz_z1 ?_
  refine jx_ifeq (pc := 8) rfl (fun hc2 => ?_) (fun hc2 => ?_)
  · replace K := (if_pos hc2).symm.trans K
    refine jx_next (pc := 13) (pc' := 14) rfl rfl ?_
    refine jx_next (pc := 14) (pc' := 15) rfl rfl ?_
    refine jx_getr2 (pc := 15) rfl jko_110 jr_12_72 ?_
    refine jx_callv (pc := 18) (o := 110) (rest := []) rfl ⟨by decide, by decide⟩ rfl jko_110 (Nat.le_of_ble_eq_true rfl) ?_
    obtain ⟨z3, hz_z3, K⟩ := Option.bind_eq_some_iff.mp K
    refine kM_isHere  jko_166 (by omega) hz_z3 ?_
    refine jx_ifeq (pc := 21) rfl (fun hc4 => ?_) (fun hc4 => ?_)
    · replace K := (if_pos hc4).symm.trans K
      refine jx_next (pc := 26) (pc' := 27) rfl rfl ?_
      refine jx_next (pc := 27) (pc' := 28) rfl rfl ?_
      refine jx_getr2 (pc := 28) rfl jko_110 jr_12_73 ?_
      refine jx_callv (pc := 31) (o := 110) (rest := []) rfl ⟨by decide, by decide⟩ rfl jko_110 (Nat.le_of_ble_eq_true rfl) ?_
      obtain ⟨z5, hz_z5, K⟩ := Option.bind_eq_some_iff.mp K
      refine kM_isHere  jko_167 (by omega) hz_z5 ?_
      refine jx_ifeq (pc := 34) rfl (fun hc6 => ?_) (fun hc6 => ?_)
      · replace K := (if_pos hc6).symm.trans K
        refine jx_next (pc := 39) (pc' := 40) rfl rfl ?_
        refine jx_next (pc := 40) (pc' := 41) rfl rfl ?_
        refine jx_getr2 (pc := 41) rfl jko_110 jr_12_74 ?_
        refine jx_callv (pc := 44) (o := 110) (rest := []) rfl ⟨by decide, by decide⟩ rfl jko_110 (Nat.le_of_ble_eq_true rfl) ?_
        obtain ⟨z7, hz_z7, K⟩ := Option.bind_eq_some_iff.mp K
        refine kM_isHere  jko_168 (by omega) hz_z7 ?_
        refine jx_ifeq (pc := 47) rfl (fun hc8 => ?_) (fun hc8 => ?_)
        · replace K := (if_pos hc8).symm.trans K
          refine jx_next (pc := 52) (pc' := 53) rfl rfl ?_
          refine jx_next (pc := 53) (pc' := 54) rfl rfl ?_
          refine jx_getr2 (pc := 54) rfl jko_110 jr_12_75 ?_
          refine jx_callv (pc := 57) (o := 110) (rest := []) rfl ⟨by decide, by decide⟩ rfl jko_110 (Nat.le_of_ble_eq_true rfl) ?_
          obtain ⟨z9, hz_z9, K⟩ := Option.bind_eq_some_iff.mp K
          refine kM_isHere  jko_169 (by omega) hz_z9 ?_
          refine jx_ifeq (pc := 60) rfl (fun hc10 => ?_) (fun hc10 => ?_)
          · replace K := (if_pos hc10).symm.trans K
            refine jx_next (pc := 65) (pc' := 66) rfl rfl ?_
            refine jx_next (pc := 66) (pc' := 67) rfl rfl ?_
            refine jx_getr2 (pc := 67) rfl jko_110 jr_12_76 ?_
            refine jx_callv (pc := 70) (o := 110) (rest := []) rfl ⟨by decide, by decide⟩ rfl jko_110 (Nat.le_of_ble_eq_true rfl) ?_
            obtain ⟨z11, hz_z11, K⟩ := Option.bind_eq_some_iff.mp K
            refine kM_isHere  jko_170 (by omega) hz_z11 ?_
            refine jx_ifeq (pc := 73) rfl (fun hc12 => ?_) (fun hc12 => ?_)
            · replace K := (if_pos hc12).symm.trans K
              refine jx_next (pc := 78) (pc' := 79) rfl rfl ?_
              refine jx_next (pc := 79) (pc' := 80) rfl rfl ?_
              refine jx_getr2 (pc := 80) rfl jko_110 jr_12_77 ?_
              refine jx_callv (pc := 83) (o := 110) (rest := []) rfl ⟨by decide, by decide⟩ rfl jko_110 (Nat.le_of_ble_eq_true rfl) ?_
              obtain ⟨z13, hz_z13, K⟩ := Option.bind_eq_some_iff.mp K
              refine kM_isHere  jko_171 (by omega) hz_z13 ?_
              refine jx_ifeq (pc := 86) rfl (fun hc14 => ?_) (fun hc14 => ?_)
              · replace K := (if_pos hc14).symm.trans K
                refine jx_next (pc := 92) (pc' := 93) rfl rfl ?_
                refine jx_next (pc := 93) (pc' := 94) rfl rfl ?_
                refine jx_getr2 (pc := 94) rfl jko_110 jr_12_78 ?_
                refine jx_callv (pc := 97) (o := 110) (rest := []) rfl ⟨by decide, by decide⟩ rfl jko_110 (Nat.le_of_ble_eq_true rfl) ?_
                obtain ⟨z15, hz_z15, K⟩ := Option.bind_eq_some_iff.mp K
                refine kM_isHere  jko_172 (by omega) hz_z15 ?_
                refine jx_ifeq (pc := 100) rfl (fun hc16 => ?_) (fun hc16 => ?_)
                · replace K := (if_pos hc16).symm.trans K
                  refine jx_next (pc := 106) (pc' := 107) rfl rfl ?_
                  obtain rfl := Option.some.inj K
                  exact jx_iret (pc := 107) rfl HQ
                · replace K := (if_neg hc16).symm.trans K
                  refine jx_next (pc := 103) (pc' := 105) rfl rfl ?_
                  obtain rfl := Option.some.inj K
                  exact jx_iret (pc := 105) rfl HQ
              · replace K := (if_neg hc14).symm.trans K
                refine jx_next (pc := 89) (pc' := 91) rfl rfl ?_
                obtain rfl := Option.some.inj K
                exact jx_iret (pc := 91) rfl HQ
            · replace K := (if_neg hc12).symm.trans K
              refine jx_next (pc := 76) (pc' := 77) rfl rfl ?_
              obtain rfl := Option.some.inj K
              exact jx_iret (pc := 77) rfl HQ
          · replace K := (if_neg hc10).symm.trans K
            refine jx_next (pc := 63) (pc' := 64) rfl rfl ?_
            obtain rfl := Option.some.inj K
            exact jx_iret (pc := 64) rfl HQ
        · replace K := (if_neg hc8).symm.trans K
          refine jx_next (pc := 50) (pc' := 51) rfl rfl ?_
          obtain rfl := Option.some.inj K
          exact jx_iret (pc := 51) rfl HQ
      · replace K := (if_neg hc6).symm.trans K
        refine jx_next (pc := 37) (pc' := 38) rfl rfl ?_
        obtain rfl := Option.some.inj K
        exact jx_iret (pc := 38) rfl HQ
    · replace K := (if_neg hc4).symm.trans K
      refine jx_next (pc := 24) (pc' := 25) rfl rfl ?_
      obtain rfl := Option.some.inj K
      exact jx_iret (pc := 25) rfl HQ
  · replace K := (if_neg hc2).symm.trans K
    refine jx_next (pc := 11) (pc' := 12) rfl rfl ?_
    obtain rfl := Option.some.inj K
    exact jx_iret (pc := 12) rfl HQ
/-- AndGuestModel.isAllowed(I)Z -/
noncomputable def fM_isAllowed (v1 : Int32) (h : jH) : Int32 :=
  (if (h.1 110 49) = 0 then
  (1 : Int32)
  else
  (if v1 < 4 then
  (1 : Int32)
  else
  (0 : Int32)))
theorem kM_isAllowed {X : jX} {dd : Nat} {p d : Nat} {q : Nat → Nat} {Q : Option Value → jS → Prop} {v1 : Int32} {h : jH}  (hd : 0 ≤ dd) {z : Int32} (K : fM_isAllowed v1 h = z) (HQ : Q (some (.int z)) (176, jRf p d q, h)) :
    jCa X dd 216 [.ref 110, .int v1] (176, jRf p d q, h) Q := by
  unfold fM_isAllowed at K
  refine jCa_of (es := jc_216) (pl := [some (.ref 110), some (.int v1)]) (M := jm_216) rfl rfl rfl rfl ?_
  refine jx_next (pc := 0) (pc' := 1) rfl rfl ?_
  refine jx_getz (pc := 1) rfl jko_110 ?_
  refine jx_ifeq (pc := 4) rfl (fun hc1 => ?_) (fun hc1 => ?_)
  · replace K := (if_pos hc1).symm.trans K
    refine jx_next (pc := 12) (pc' := 13) rfl rfl ?_
    refine jx_next (pc := 13) (pc' := 17) rfl rfl ?_
    obtain rfl := K
    exact jx_zret (pc := 17) rfl (Or.inr rfl) HQ
  · replace K := (if_neg hc1).symm.trans K
    refine jx_next (pc := 7) (pc' := 8) rfl rfl ?_
    refine jx_next (pc := 8) (pc' := 9) rfl rfl ?_
    refine jx_icge (pc := 9) rfl (fun hc2 => ?_) (fun hc2 => ?_)
    · replace K := (if_pos hc2).symm.trans K
      refine jx_next (pc := 12) (pc' := 13) rfl rfl ?_
      refine jx_next (pc := 13) (pc' := 17) rfl rfl ?_
      obtain rfl := K
      exact jx_zret (pc := 17) rfl (Or.inr rfl) HQ
    · replace K := (if_neg hc2).symm.trans K
      refine jx_next (pc := 16) (pc' := 17) rfl rfl ?_
      obtain rfl := K
      exact jx_zret (pc := 17) rfl (Or.inl rfl) HQ
/-- AndGuestModel.qWordOf(II)I -/
noncomputable def fM_qWordOf (v1 : Int32) (v2 : Int32) (h : jH) : Option (Int32 × jH) :=
  (Option.bind (fM_qWordHere h) (fun (z1 : Int32 × jH) =>
  (if z1.1 < v1 then
  some ((-1), z1.2)
  else
  (if z1.1 < v2 then
  (if (fM_isAllowed z1.1 z1.2) = 0 then
  some ((-1), z1.2)
  else
  some (z1.1, z1.2))
  else
  some ((-1), z1.2)))))
theorem kM_qWordOf {X : jX} {dd : Nat} {p d : Nat} {q : Nat → Nat} {Q : Option Value → jS → Prop} {v1 : Int32} {v2 : Int32} {h : jH}  (hd : 3 ≤ dd) {z : Int32 × jH} (K : fM_qWordOf v1 v2 h = some z) (HQ : Q (some (.int z.1)) (176, jRf p d q, z.2)) :
    jCa X dd 214 [.ref 110, .int v1, .int v2] (176, jRf p d q, h) Q := by
  obtain ⟨dd, rfl⟩ : ∃ d9, dd = d9 + 1 := ⟨dd - 1, by omega⟩
  unfold fM_qWordOf at K
  refine jCa_of (es := jc_214) (pl := [some (.ref 110), some (.int v1), some (.int v2), none]) (M := jm_214) rfl rfl rfl rfl ?_
  refine jx_next (pc := 0) (pc' := 1) rfl rfl ?_
  refine jx_callv (pc := 1) (o := 110) (rest := []) rfl ⟨by decide, by decide⟩ rfl jko_110 (Nat.le_of_ble_eq_true rfl) ?_
  obtain ⟨z1, hz_z1, K⟩ := Option.bind_eq_some_iff.mp K
  refine kM_qWordHere  (by omega) hz_z1 ?_
  refine jx_stin (pc := 4) (p2 := [some (.ref 110), some (.int v1), some (.int v2), some (.int z1.1)]) rfl (jlt rfl) rfl ?_
  refine jx_next (pc := 5) (pc' := 6) rfl rfl ?_
  refine jx_next (pc := 6) (pc' := 7) rfl rfl ?_
  refine jx_iclt (pc := 7) rfl (fun hc2 => ?_) (fun hc2 => ?_)
  · replace K := (if_pos hc2).symm.trans K
    refine jx_next (pc := 27) (pc' := 28) rfl rfl ?_
    obtain rfl := Option.some.inj K
    exact jx_iret (pc := 28) rfl HQ
  · replace K := (if_neg hc2).symm.trans K
    refine jx_next (pc := 10) (pc' := 11) rfl rfl ?_
    refine jx_next (pc := 11) (pc' := 12) rfl rfl ?_
    refine jx_icge (pc := 12) rfl (fun hc3 => ?_) (fun hc3 => ?_)
    · replace K := (if_pos hc3).symm.trans K
      refine jx_next (pc := 15) (pc' := 16) rfl rfl ?_
      refine jx_next (pc := 16) (pc' := 17) rfl rfl ?_
      refine jx_callv (pc := 17) (o := 110) (rest := []) rfl ⟨by decide, by decide⟩ rfl jko_110 (Nat.le_of_ble_eq_true rfl) ?_
      refine kM_isAllowed  (by omega) rfl ?_
      refine jx_ifeq (pc := 20) rfl (fun hc5 => ?_) (fun hc5 => ?_)
      · replace K := (if_pos hc5).symm.trans K
        refine jx_next (pc := 27) (pc' := 28) rfl rfl ?_
        obtain rfl := Option.some.inj K
        exact jx_iret (pc := 28) rfl HQ
      · replace K := (if_neg hc5).symm.trans K
        refine jx_next (pc := 23) (pc' := 24) rfl rfl ?_
        refine jx_next (pc := 24) (pc' := 28) rfl rfl ?_
        obtain rfl := Option.some.inj K
        exact jx_iret (pc := 28) rfl HQ
    · replace K := (if_neg hc3).symm.trans K
      refine jx_next (pc := 27) (pc' := 28) rfl rfl ?_
      obtain rfl := Option.some.inj K
      exact jx_iret (pc := 28) rfl HQ
/-- AndGuestModel.qOpens(II)V -/
noncomputable def fM_qOpens (v1 : Int32) (v2 : Int32) (h : jH) : Option jH :=
  (if (h.1 110 5) = 0 then
  (if (h.1 110 83) = 6 then
  some (fM_fail 4 v2 h)
  else
  (if jin ((jhI h 110 83 ((h.1 110 83) + 1)).1 110 82) 1700 then
  some (jhI (jhI (jhI h 110 83 ((h.1 110 83) + 1)) 174 ((jhI h 110 83 ((h.1 110 83) + 1)).1 110 82).toNatClampNeg v1) 110 82 (((jhI (jhI h 110 83 ((h.1 110 83) + 1)) 174 ((jhI h 110 83 ((h.1 110 83) + 1)).1 110 82).toNatClampNeg v1).1 110 82) + 1))
  else none))
  else
  some h)
theorem kM_qOpens {X : jX} {dd : Nat} {p d : Nat} {q : Nat → Nat} {Q : Option Value → jS → Prop} {v1 : Int32} {v2 : Int32} {h : jH}  (hd : 1 ≤ dd) {z : jH} (K : fM_qOpens v1 v2 h = some z) (HQ : Q none (176, jRf p d q, z)) :
    jCa X dd 217 [.ref 110, .int v1, .int v2] (176, jRf p d q, h) Q := by
  obtain ⟨dd, rfl⟩ : ∃ d9, dd = d9 + 1 := ⟨dd - 1, by omega⟩
  unfold fM_qOpens at K
  refine jCa_of (es := jc_217) (pl := [some (.ref 110), some (.int v1), some (.int v2)]) (M := jm_217) rfl rfl rfl rfl ?_
  refine jx_next (pc := 0) (pc' := 1) rfl rfl ?_
  refine jx_geti (pc := 1) rfl jko_110 ?_
  refine jx_ifeq (pc := 4) rfl (fun hc1 => ?_) (fun hc1 => ?_)
  · replace K := (if_pos hc1).symm.trans K
    refine jx_next (pc := 8) (pc' := 9) rfl rfl ?_
    refine jx_geti (pc := 9) rfl jko_110 ?_
    refine jx_next (pc := 12) (pc' := 14) rfl rfl ?_
    refine jx_icne (pc := 14) rfl (fun hc2 => ?_) (fun hc2 => ?_)
    · replace K := (if_pos hc2).symm.trans K
      refine jx_next (pc := 17) (pc' := 18) rfl rfl ?_
      refine jx_next (pc := 18) (pc' := 19) rfl rfl ?_
      refine jx_next (pc := 19) (pc' := 20) rfl rfl ?_
      refine jx_callv (pc := 20) (o := 110) (rest := []) rfl ⟨by decide, by decide⟩ rfl jko_110 (Nat.le_of_ble_eq_true rfl) ?_
      refine kM_fail  (by omega) rfl ?_
      obtain rfl := Option.some.inj K
      exact jx_ret (pc := 23) rfl rfl HQ
    · replace K := (if_neg hc2).symm.trans K
      refine jx_next (pc := 24) (pc' := 25) rfl rfl ?_
      refine jx_next (pc := 25) (pc' := 26) rfl rfl ?_
      refine jx_geti (pc := 26) rfl jko_110 ?_
      refine jx_next (pc := 29) (pc' := 30) rfl rfl ?_
      refine jx_next (pc := 30) (pc' := 31) rfl rfl ?_
      refine jx_puti (pc := 31) rfl jko_110 ?_
      refine jx_next (pc := 34) (pc' := 35) rfl rfl ?_
      refine jx_getr2 (pc := 35) rfl jko_110 jr_12_81 ?_
      refine jx_next (pc := 38) (pc' := 39) rfl rfl ?_
      refine jx_geti (pc := 39) rfl jko_110 ?_
      refine jx_next (pc := 42) (pc' := 43) rfl rfl ?_
      obtain ⟨hg4, K⟩ := jguard K
      refine jx_iast2 (pc := 43) rfl jko_174 jno_174 hg4 ?_
      refine jx_next (pc := 44) (pc' := 45) rfl rfl ?_
      refine jx_next (pc := 45) (pc' := 46) rfl rfl ?_
      refine jx_geti (pc := 46) rfl jko_110 ?_
      refine jx_next (pc := 49) (pc' := 50) rfl rfl ?_
      refine jx_next (pc := 50) (pc' := 51) rfl rfl ?_
      refine jx_puti (pc := 51) rfl jko_110 ?_
      obtain rfl := Option.some.inj K
      exact jx_ret (pc := 54) rfl rfl HQ
  · replace K := (if_neg hc1).symm.trans K
    obtain rfl := Option.some.inj K
    exact jx_ret (pc := 7) rfl rfl HQ
/-- AndGuestModel.qAsksWord(I)V -/
noncomputable def fM_qAsksWord (v1 : Int32) (h : jH) : Option jH :=
  (if v1 = 0 then
  (Option.bind (fM_asks 165 h) (fun (z1 : jH) =>
  some z1))
  else
  (if v1 = 1 then
  (Option.bind (fM_asks 166 h) (fun (z2 : jH) =>
  some z2))
  else
  (if v1 = 2 then
  (Option.bind (fM_asks 167 h) (fun (z3 : jH) =>
  some z3))
  else
  (if v1 = 3 then
  (Option.bind (fM_asks 168 h) (fun (z4 : jH) =>
  some z4))
  else
  (if v1 = 4 then
  (Option.bind (fM_asks 169 h) (fun (z5 : jH) =>
  some z5))
  else
  (if v1 = 5 then
  (Option.bind (fM_asks 170 h) (fun (z6 : jH) =>
  some z6))
  else
  (if v1 = 6 then
  (Option.bind (fM_asks 171 h) (fun (z7 : jH) =>
  some z7))
  else
  (Option.bind (fM_asks 172 h) (fun (z8 : jH) =>
  some z8)))))))))
theorem kM_qAsksWord {X : jX} {dd : Nat} {p d : Nat} {q : Nat → Nat} {Q : Option Value → jS → Prop} {v1 : Int32} {h : jH}  (hd : 4 ≤ dd) {z : jH} (K : fM_qAsksWord v1 h = some z) (HQ : Q none (176, jRf p d q, z)) :
    jCa X dd 218 [.ref 110, .int v1] (176, jRf p d q, h) Q := by
  obtain ⟨dd, rfl⟩ : ∃ d9, dd = d9 + 1 := ⟨dd - 1, by omega⟩
  unfold fM_qAsksWord at K
  refine jCa_of (es := jc_218) (pl := [some (.ref 110), some (.int v1)]) (M := jm_218) rfl rfl rfl rfl ?_
  refine jx_next (pc := 0) (pc' := 1) rfl rfl ?_
  refine jx_tsw (pc := 1) rfl ?_
  refine jx_sw1 (fun hc15 => ?_) (fun hc15 => ?_)
  · replace K := (if_pos hc15).symm.trans K
    refine jx_next (pc := 44) (pc' := 45) rfl rfl ?_
    refine jx_next (pc := 45) (pc' := 46) rfl rfl ?_
    refine jx_getr2 (pc := 46) rfl jko_110 jr_12_71 ?_
    refine jx_callv (pc := 49) (o := 110) (rest := []) rfl ⟨by decide, by decide⟩ rfl jko_110 (Nat.le_of_ble_eq_true rfl) ?_
    obtain ⟨z1, hz_z1, K⟩ := Option.bind_eq_some_iff.mp K
    refine kM_asks  jko_165 (by omega) hz_z1 ?_
    refine jx_next (pc := 52) (pc' := 129) rfl rfl ?_
    obtain rfl := Option.some.inj K
    exact jx_ret (pc := 129) rfl rfl HQ
  · replace K := (if_neg hc15).symm.trans K
    refine jx_sw1 (fun hc14 => ?_) (fun hc14 => ?_)
    · replace K := (if_pos hc14).symm.trans K
      refine jx_next (pc := 55) (pc' := 56) rfl rfl ?_
      refine jx_next (pc := 56) (pc' := 57) rfl rfl ?_
      refine jx_getr2 (pc := 57) rfl jko_110 jr_12_72 ?_
      refine jx_callv (pc := 60) (o := 110) (rest := []) rfl ⟨by decide, by decide⟩ rfl jko_110 (Nat.le_of_ble_eq_true rfl) ?_
      obtain ⟨z2, hz_z2, K⟩ := Option.bind_eq_some_iff.mp K
      refine kM_asks  jko_166 (by omega) hz_z2 ?_
      refine jx_next (pc := 63) (pc' := 129) rfl rfl ?_
      obtain rfl := Option.some.inj K
      exact jx_ret (pc := 129) rfl rfl HQ
    · replace K := (if_neg hc14).symm.trans K
      refine jx_sw1 (fun hc13 => ?_) (fun hc13 => ?_)
      · replace K := (if_pos hc13).symm.trans K
        refine jx_next (pc := 66) (pc' := 67) rfl rfl ?_
        refine jx_next (pc := 67) (pc' := 68) rfl rfl ?_
        refine jx_getr2 (pc := 68) rfl jko_110 jr_12_73 ?_
        refine jx_callv (pc := 71) (o := 110) (rest := []) rfl ⟨by decide, by decide⟩ rfl jko_110 (Nat.le_of_ble_eq_true rfl) ?_
        obtain ⟨z3, hz_z3, K⟩ := Option.bind_eq_some_iff.mp K
        refine kM_asks  jko_167 (by omega) hz_z3 ?_
        refine jx_next (pc := 74) (pc' := 129) rfl rfl ?_
        obtain rfl := Option.some.inj K
        exact jx_ret (pc := 129) rfl rfl HQ
      · replace K := (if_neg hc13).symm.trans K
        refine jx_sw1 (fun hc12 => ?_) (fun hc12 => ?_)
        · replace K := (if_pos hc12).symm.trans K
          refine jx_next (pc := 77) (pc' := 78) rfl rfl ?_
          refine jx_next (pc := 78) (pc' := 79) rfl rfl ?_
          refine jx_getr2 (pc := 79) rfl jko_110 jr_12_74 ?_
          refine jx_callv (pc := 82) (o := 110) (rest := []) rfl ⟨by decide, by decide⟩ rfl jko_110 (Nat.le_of_ble_eq_true rfl) ?_
          obtain ⟨z4, hz_z4, K⟩ := Option.bind_eq_some_iff.mp K
          refine kM_asks  jko_168 (by omega) hz_z4 ?_
          refine jx_next (pc := 85) (pc' := 129) rfl rfl ?_
          obtain rfl := Option.some.inj K
          exact jx_ret (pc := 129) rfl rfl HQ
        · replace K := (if_neg hc12).symm.trans K
          refine jx_sw1 (fun hc11 => ?_) (fun hc11 => ?_)
          · replace K := (if_pos hc11).symm.trans K
            refine jx_next (pc := 88) (pc' := 89) rfl rfl ?_
            refine jx_next (pc := 89) (pc' := 90) rfl rfl ?_
            refine jx_getr2 (pc := 90) rfl jko_110 jr_12_75 ?_
            refine jx_callv (pc := 93) (o := 110) (rest := []) rfl ⟨by decide, by decide⟩ rfl jko_110 (Nat.le_of_ble_eq_true rfl) ?_
            obtain ⟨z5, hz_z5, K⟩ := Option.bind_eq_some_iff.mp K
            refine kM_asks  jko_169 (by omega) hz_z5 ?_
            refine jx_next (pc := 96) (pc' := 129) rfl rfl ?_
            obtain rfl := Option.some.inj K
            exact jx_ret (pc := 129) rfl rfl HQ
          · replace K := (if_neg hc11).symm.trans K
            refine jx_sw1 (fun hc10 => ?_) (fun hc10 => ?_)
            · replace K := (if_pos hc10).symm.trans K
              refine jx_next (pc := 99) (pc' := 100) rfl rfl ?_
              refine jx_next (pc := 100) (pc' := 101) rfl rfl ?_
              refine jx_getr2 (pc := 101) rfl jko_110 jr_12_76 ?_
              refine jx_callv (pc := 104) (o := 110) (rest := []) rfl ⟨by decide, by decide⟩ rfl jko_110 (Nat.le_of_ble_eq_true rfl) ?_
              obtain ⟨z6, hz_z6, K⟩ := Option.bind_eq_some_iff.mp K
              refine kM_asks  jko_170 (by omega) hz_z6 ?_
              refine jx_next (pc := 107) (pc' := 129) rfl rfl ?_
              obtain rfl := Option.some.inj K
              exact jx_ret (pc := 129) rfl rfl HQ
            · replace K := (if_neg hc10).symm.trans K
              refine jx_sw1 (fun hc9 => ?_) (fun hc9 => ?_)
              · replace K := (if_pos hc9).symm.trans K
                refine jx_next (pc := 110) (pc' := 111) rfl rfl ?_
                refine jx_next (pc := 111) (pc' := 112) rfl rfl ?_
                refine jx_getr2 (pc := 112) rfl jko_110 jr_12_77 ?_
                refine jx_callv (pc := 115) (o := 110) (rest := []) rfl ⟨by decide, by decide⟩ rfl jko_110 (Nat.le_of_ble_eq_true rfl) ?_
                obtain ⟨z7, hz_z7, K⟩ := Option.bind_eq_some_iff.mp K
                refine kM_asks  jko_171 (by omega) hz_z7 ?_
                refine jx_next (pc := 118) (pc' := 129) rfl rfl ?_
                obtain rfl := Option.some.inj K
                exact jx_ret (pc := 129) rfl rfl HQ
              · replace K := (if_neg hc9).symm.trans K
                refine jx_sw0 ?_
                refine jx_next (pc := 121) (pc' := 122) rfl rfl ?_
                refine jx_next (pc := 122) (pc' := 123) rfl rfl ?_
                refine jx_getr2 (pc := 123) rfl jko_110 jr_12_78 ?_
                refine jx_callv (pc := 126) (o := 110) (rest := []) rfl ⟨by decide, by decide⟩ rfl jko_110 (Nat.le_of_ble_eq_true rfl) ?_
                obtain ⟨z8, hz_z8, K⟩ := Option.bind_eq_some_iff.mp K
                refine kM_asks  jko_172 (by omega) hz_z8 ?_
                obtain rfl := Option.some.inj K
                exact jx_ret (pc := 129) rfl rfl HQ
/-- AndGuestModel.qCode(I)V -/
noncomputable def fM_qCode (v1 : Int32) (h : jH) : Option jH :=
  (if jin (h.1 110 80) 1700 then
  some (jhI (jhI h 173 (h.1 110 80).toNatClampNeg v1) 110 80 (((jhI h 173 (h.1 110 80).toNatClampNeg v1).1 110 80) + 1))
  else none)
theorem kM_qCode {X : jX} {dd : Nat} {p d : Nat} {q : Nat → Nat} {Q : Option Value → jS → Prop} {v1 : Int32} {h : jH}  (hd : 0 ≤ dd) {z : jH} (K : fM_qCode v1 h = some z) (HQ : Q none (176, jRf p d q, z)) :
    jCa X dd 219 [.ref 110, .int v1] (176, jRf p d q, h) Q := by
  unfold fM_qCode at K
  refine jCa_of (es := jc_219) (pl := [some (.ref 110), some (.int v1)]) (M := jm_219) rfl rfl rfl rfl ?_
  refine jx_next (pc := 0) (pc' := 1) rfl rfl ?_
  refine jx_getr2 (pc := 1) rfl jko_110 jr_12_79 ?_
  refine jx_next (pc := 4) (pc' := 5) rfl rfl ?_
  refine jx_geti (pc := 5) rfl jko_110 ?_
  refine jx_next (pc := 8) (pc' := 9) rfl rfl ?_
  obtain ⟨hg1, K⟩ := jguard K
  refine jx_iast2 (pc := 9) rfl jko_173 jno_173 hg1 ?_
  refine jx_next (pc := 10) (pc' := 11) rfl rfl ?_
  refine jx_next (pc := 11) (pc' := 12) rfl rfl ?_
  refine jx_geti (pc := 12) rfl jko_110 ?_
  refine jx_next (pc := 15) (pc' := 16) rfl rfl ?_
  refine jx_next (pc := 16) (pc' := 17) rfl rfl ?_
  refine jx_puti (pc := 17) rfl jko_110 ?_
  obtain rfl := Option.some.inj K
  exact jx_ret (pc := 20) rfl rfl HQ
/-- AndGuestModel.qDrops()V -/
noncomputable def fM_qDrops  (h : jH) : Option jH :=
  (if jin ((jhI h 110 82 ((h.1 110 82) - 1)).1 110 82) 1700 then
  (Option.bind (fM_qCode ((jhI h 110 82 ((h.1 110 82) - 1)).1 174 ((jhI h 110 82 ((h.1 110 82) - 1)).1 110 82).toNatClampNeg) (jhI h 110 82 ((h.1 110 82) - 1))) (fun (z2 : jH) =>
  some z2))
  else none)
theorem kM_qDrops {X : jX} {dd : Nat} {p d : Nat} {q : Nat → Nat} {Q : Option Value → jS → Prop}  {h : jH}  (hd : 1 ≤ dd) {z : jH} (K : fM_qDrops  h = some z) (HQ : Q none (176, jRf p d q, z)) :
    jCa X dd 221 [.ref 110] (176, jRf p d q, h) Q := by
  obtain ⟨dd, rfl⟩ : ∃ d9, dd = d9 + 1 := ⟨dd - 1, by omega⟩
  unfold fM_qDrops at K
  refine jCa_of (es := jc_221) (pl := [some (.ref 110)]) (M := jm_221) rfl rfl rfl rfl ?_
  refine jx_next (pc := 0) (pc' := 1) rfl rfl ?_
  refine jx_next (pc := 1) (pc' := 2) rfl rfl ?_
  refine jx_geti (pc := 2) rfl jko_110 ?_
  refine jx_next (pc := 5) (pc' := 6) rfl rfl ?_
  refine jx_next (pc := 6) (pc' := 7) rfl rfl ?_
  refine jx_puti (pc := 7) rfl jko_110 ?_
  refine jx_next (pc := 10) (pc' := 11) rfl rfl ?_
  refine jx_next (pc := 11) (pc' := 12) rfl rfl ?_
  refine jx_getr2 (pc := 12) rfl jko_110 jr_12_81 ?_
  refine jx_next (pc := 15) (pc' := 16) rfl rfl ?_
  refine jx_geti (pc := 16) rfl jko_110 ?_
  obtain ⟨hg1, K⟩ := jguard K
  refine jx_iald2 (pc := 19) rfl jko_174 jno_174 hg1 ?_
  refine jx_callv (pc := 20) (o := 110) (rest := []) rfl ⟨by decide, by decide⟩ rfl jko_110 (Nat.le_of_ble_eq_true rfl) ?_
  obtain ⟨z2, hz_z2, K⟩ := Option.bind_eq_some_iff.mp K
  refine kM_qCode  (by omega) hz_z2 ?_
  obtain rfl := Option.some.inj K
  exact jx_ret (pc := 23) rfl rfl HQ
noncomputable def fM_qEndsPart_l0_b  (h : jH) : Option ((jH) ⊕ (jH)) :=
  (if (h.1 110 5) = 0 then
  (if (h.1 110 84) < (h.1 110 82) then
  (if jin ((h.1 110 82) - 1) 1700 then
  (if (h.1 174 ((h.1 110 82) - 1).toNatClampNeg) < 60 then
  some (.inr h)
  else
  (Option.bind (fM_qDrops (jhI h 110 83 ((h.1 110 83) - 1))) (fun (z5 : jH) =>
  some (.inl z5))))
  else none)
  else
  some (.inr h))
  else
  some (.inr h))
noncomputable def fM_qEndsPart_l0  : jH → Option ((jH) ⊕ (jH)) :=
  fun (s : jH) => fM_qEndsPart_l0_b  s
theorem kM_qEndsPart_l0_b {X : jX} {dd : Nat} {p d : Nat} {q : Nat → Nat} {Q : Option Value → jS → Prop}  {h : jH}  (hd : 2 ≤ (dd + 1)) {z : (jH) ⊕ (jH)} (K : fM_qEndsPart_l0_b  h = some z) (HL : ∀ s : jH, z = .inl s → jEx X (dd + 1) jc_220 0 [some (.ref 110)] [] (176, jRf p d q, s) Q) (HE0 : ∀ x : jH, z = .inr x → jEx X (dd + 1) jc_220 51 [none] [] (176, jRf p d q, x) Q) :
    jEx X (dd + 1) jc_220 0 [some (.ref 110)] [] (176, jRf p d q, h) Q := by
  unfold fM_qEndsPart_l0_b at K
  refine jx_next (pc := 0) (pc' := 1) rfl rfl ?_
  refine jx_geti (pc := 1) rfl jko_110 ?_
  refine jx_ifne (pc := 4) rfl (fun hc1 => ?_) (fun hc1 => ?_)
  · replace K := (if_pos hc1).symm.trans K
    refine jx_next (pc := 7) (pc' := 8) rfl rfl ?_
    refine jx_geti (pc := 8) rfl jko_110 ?_
    refine jx_next (pc := 11) (pc' := 12) rfl rfl ?_
    refine jx_geti (pc := 12) rfl jko_110 ?_
    refine jx_icle (pc := 15) rfl (fun hc2 => ?_) (fun hc2 => ?_)
    · replace K := (if_pos hc2).symm.trans K
      refine jx_next (pc := 18) (pc' := 19) rfl rfl ?_
      refine jx_getr2 (pc := 19) rfl jko_110 jr_12_81 ?_
      refine jx_next (pc := 22) (pc' := 23) rfl rfl ?_
      refine jx_geti (pc := 23) rfl jko_110 ?_
      refine jx_next (pc := 26) (pc' := 27) rfl rfl ?_
      refine jx_next (pc := 27) (pc' := 28) rfl rfl ?_
      obtain ⟨hg3, K⟩ := jguard K
      refine jx_iald2 (pc := 28) rfl jko_174 jno_174 hg3 ?_
      refine jx_next (pc := 29) (pc' := 31) rfl rfl ?_
      refine jx_iclt (pc := 31) rfl (fun hc4 => ?_) (fun hc4 => ?_)
      · replace K := (if_pos hc4).symm.trans K
        obtain rfl := Option.some.inj K
        refine jx_le (pl' := [none]) (jle_n jle_nil) ?_
        exact HE0 _ rfl
      · replace K := (if_neg hc4).symm.trans K
        refine jx_next (pc := 34) (pc' := 35) rfl rfl ?_
        refine jx_next (pc := 35) (pc' := 36) rfl rfl ?_
        refine jx_geti (pc := 36) rfl jko_110 ?_
        refine jx_next (pc := 39) (pc' := 40) rfl rfl ?_
        refine jx_next (pc := 40) (pc' := 41) rfl rfl ?_
        refine jx_puti (pc := 41) rfl jko_110 ?_
        refine jx_next (pc := 44) (pc' := 45) rfl rfl ?_
        refine jx_callv (pc := 45) (o := 110) (rest := []) rfl ⟨by decide, by decide⟩ rfl jko_110 (Nat.le_of_ble_eq_true rfl) ?_
        obtain ⟨z5, hz_z5, K⟩ := Option.bind_eq_some_iff.mp K
        refine kM_qDrops  (by omega) hz_z5 ?_
        refine jx_next (pc := 48) (pc' := 0) rfl rfl ?_
        obtain rfl := Option.some.inj K
        refine jx_le (pl' := [some (.ref 110)]) (jle_v jle_nil) ?_
        exact HL z5 rfl
    · replace K := (if_neg hc2).symm.trans K
      obtain rfl := Option.some.inj K
      refine jx_le (pl' := [none]) (jle_n jle_nil) ?_
      exact HE0 _ rfl
  · replace K := (if_neg hc1).symm.trans K
    obtain rfl := Option.some.inj K
    refine jx_le (pl' := [none]) (jle_n jle_nil) ?_
    exact HE0 _ rfl
theorem kM_qEndsPart_l0_w {X : jX} {dd : Nat} {p d : Nat} {q : Nat → Nat} {Q : Option Value → jS → Prop}   (hd : 2 ≤ (dd + 1)) {s : jH} {x : jH} (K : jlim (fM_qEndsPart_l0 ) s = some x) (HE : jEx X (dd + 1) jc_220 51 [none] [] (176, jRf p d q, x) Q) :
    jEx X (dd + 1) jc_220 0 [some (.ref 110)] [] (176, jRf p d q, s) Q := by
  refine jlim_ok (G := fun s : jH => jEx X (dd + 1) jc_220 0 [some (.ref 110)] [] (176, jRf p d q, s) Q) (GX := fun x : jH => jEx X (dd + 1) jc_220 51 [none] [] (176, jRf p d q, x) Q) (fun s z hz HL HE => ?_) K HE
  exact kM_qEndsPart_l0_b  hd hz HL HE
/-- AndGuestModel.qEndsPart()V -/
noncomputable def fM_qEndsPart  (h : jH) : Option jH :=
  (Option.bind (jlim (fM_qEndsPart_l0 ) h) (fun (x6 : jH) =>
  some x6))
theorem kM_qEndsPart {X : jX} {dd : Nat} {p d : Nat} {q : Nat → Nat} {Q : Option Value → jS → Prop}  {h : jH}  (hd : 2 ≤ dd) {z : jH} (K : fM_qEndsPart  h = some z) (HQ : Q none (176, jRf p d q, z)) :
    jCa X dd 220 [.ref 110] (176, jRf p d q, h) Q := by
  obtain ⟨dd, rfl⟩ : ∃ d9, dd = d9 + 1 := ⟨dd - 1, by omega⟩
  unfold fM_qEndsPart at K
  refine jCa_of (es := jc_220) (pl := [some (.ref 110)]) (M := jm_220) rfl rfl rfl rfl ?_
  refine jx_le (pl' := [some (.ref 110)]) (jle_v jle_nil) ?_
  obtain ⟨x6, hz_x6, K⟩ := Option.bind_eq_some_iff.mp K
  refine kM_qEndsPart_l0_w  hd hz_x6 ?_
  obtain rfl := Option.some.inj K
  exact jx_ret (pc := 51) rfl rfl HQ
noncomputable def fM_qPartTold_l2_j183 (v1 : Int32) (h : jH) : Option ((Int32 × jH) ⊕ (jH)) :=
  some (.inl (v1, h))
theorem kM_qPartTold_l2_j183 {X : jX} {dd : Nat} {p d : Nat} {q : Nat → Nat} {Q : Option Value → jS → Prop} {v1 : Int32} {h : jH}  (hd : 5 ≤ (dd + 1)) {z : (Int32 × jH) ⊕ (jH)} (K : fM_qPartTold_l2_j183 v1 h = some z) (HL : ∀ s : Int32 × jH, z = .inl s → jEx X (dd + 1) jc_213 2 [some (.ref 110), some (.int s.1), none, none, none, none] [] (176, jRf p d q, s.2) Q) (HE0 : ∀ x : jH, z = .inr x → jEx X (dd + 1) jc_213 186 [some (.ref 110), none, none, none, none, none] [] (176, jRf p d q, x) Q) :
    jEx X (dd + 1) jc_213 183 [some (.ref 110), some (.int v1), none, none, none, none] [] (176, jRf p d q, h) Q := by
  unfold fM_qPartTold_l2_j183 at K
  refine jx_next (pc := 183) (pc' := 2) rfl rfl ?_
  obtain rfl := Option.some.inj K
  refine jx_le (pl' := [some (.ref 110), some (.int v1), none, none, none, none]) (jle_v (jle_v (jle_n (jle_n (jle_n (jle_n jle_nil)))))) ?_
  exact HL (v1, h) rfl
noncomputable def fM_qPartTold_l2_j144 (v1 : Int32) (h : jH) : Option ((Int32 × jH) ⊕ (jH)) :=
  (Option.bind (fM_asksSign 40 h) (fun (z20 : jH) =>
  fM_qPartTold_l2_j183  v1 z20))
theorem kM_qPartTold_l2_j144 {X : jX} {dd : Nat} {p d : Nat} {q : Nat → Nat} {Q : Option Value → jS → Prop} {v1 : Int32} {h : jH}  (hd : 5 ≤ (dd + 1)) {z : (Int32 × jH) ⊕ (jH)} (K : fM_qPartTold_l2_j144 v1 h = some z) (HL : ∀ s : Int32 × jH, z = .inl s → jEx X (dd + 1) jc_213 2 [some (.ref 110), some (.int s.1), none, none, none, none] [] (176, jRf p d q, s.2) Q) (HE0 : ∀ x : jH, z = .inr x → jEx X (dd + 1) jc_213 186 [some (.ref 110), none, none, none, none, none] [] (176, jRf p d q, x) Q) :
    jEx X (dd + 1) jc_213 144 [some (.ref 110), some (.int v1), none, none, none, none] [] (176, jRf p d q, h) Q := by
  unfold fM_qPartTold_l2_j144 at K
  refine jx_next (pc := 144) (pc' := 145) rfl rfl ?_
  refine jx_next (pc := 145) (pc' := 147) rfl rfl ?_
  refine jx_callv (pc := 147) (o := 110) (rest := []) rfl ⟨by decide, by decide⟩ rfl jko_110 (Nat.le_of_ble_eq_true rfl) ?_
  obtain ⟨z20, hz_z20, K⟩ := Option.bind_eq_some_iff.mp K
  refine kM_asksSign  (by omega) hz_z20 ?_
  refine jx_next (pc := 150) (pc' := 183) rfl rfl ?_
  refine jx_le (pl' := [some (.ref 110), some (.int v1), none, none, none, none]) (jle_v (jle_v (jle_n (jle_n (jle_n (jle_n jle_nil)))))) ?_
  exact kM_qPartTold_l2_j183  hd K HL HE0
noncomputable def fM_qPartTold_l2_j139 (v1 : Int32) (v5 : Int32) (s1 : Int32) (h : jH) : Option ((Int32 × jH) ⊕ (jH)) :=
  (Option.bind (fM_qOpens s1 v5 h) (fun (z22 : jH) =>
  fM_qPartTold_l2_j144  v1 z22))
theorem kM_qPartTold_l2_j139 {X : jX} {dd : Nat} {p d : Nat} {q : Nat → Nat} {Q : Option Value → jS → Prop} {v1 : Int32} {v5 : Int32} {s1 : Int32} {h : jH}  (hd : 5 ≤ (dd + 1)) {z : (Int32 × jH) ⊕ (jH)} (K : fM_qPartTold_l2_j139 v1 v5 s1 h = some z) (HL : ∀ s : Int32 × jH, z = .inl s → jEx X (dd + 1) jc_213 2 [some (.ref 110), some (.int s.1), none, none, none, none] [] (176, jRf p d q, s.2) Q) (HE0 : ∀ x : jH, z = .inr x → jEx X (dd + 1) jc_213 186 [some (.ref 110), none, none, none, none, none] [] (176, jRf p d q, x) Q) :
    jEx X (dd + 1) jc_213 139 [some (.ref 110), some (.int v1), none, none, none, some (.int v5)] [.int s1, .ref 110] (176, jRf p d q, h) Q := by
  unfold fM_qPartTold_l2_j139 at K
  refine jx_next (pc := 139) (pc' := 141) rfl rfl ?_
  refine jx_callv (pc := 141) (o := 110) (rest := []) rfl ⟨by decide, by decide⟩ rfl jko_110 (Nat.le_of_ble_eq_true rfl) ?_
  obtain ⟨z22, hz_z22, K⟩ := Option.bind_eq_some_iff.mp K
  refine kM_qOpens  (by omega) hz_z22 ?_
  refine jx_le (pl' := [some (.ref 110), some (.int v1), none, none, none, none]) (jle_v (jle_v (jle_n (jle_n (jle_n (jle_n jle_nil)))))) ?_
  exact kM_qPartTold_l2_j144  hd K HL HE0
noncomputable def fM_qPartTold_l2_j118 (v1 : Int32) (v4 : Int32) (s0 : Int32) (h : jH) : Option ((Int32 × jH) ⊕ (jH)) :=
  (if s0 = (-1) then
  fM_qPartTold_l2_j144  v1 h
  else
  (if v4 = 0 then
  fM_qPartTold_l2_j139  v1 s0 22 h
  else
  fM_qPartTold_l2_j139  v1 s0 21 h))
theorem kM_qPartTold_l2_j118 {X : jX} {dd : Nat} {p d : Nat} {q : Nat → Nat} {Q : Option Value → jS → Prop} {v1 : Int32} {v4 : Int32} {s0 : Int32} {h : jH}  (hd : 5 ≤ (dd + 1)) {z : (Int32 × jH) ⊕ (jH)} (K : fM_qPartTold_l2_j118 v1 v4 s0 h = some z) (HL : ∀ s : Int32 × jH, z = .inl s → jEx X (dd + 1) jc_213 2 [some (.ref 110), some (.int s.1), none, none, none, none] [] (176, jRf p d q, s.2) Q) (HE0 : ∀ x : jH, z = .inr x → jEx X (dd + 1) jc_213 186 [some (.ref 110), none, none, none, none, none] [] (176, jRf p d q, x) Q) :
    jEx X (dd + 1) jc_213 118 [some (.ref 110), some (.int v1), none, none, some (.int v4), none] [.int s0] (176, jRf p d q, h) Q := by
  unfold fM_qPartTold_l2_j118 at K
  refine jx_sti (pc := 118) (p2 := [some (.ref 110), some (.int v1), none, none, some (.int v4), some (.int s0)]) rfl (jlt rfl) rfl ?_
  refine jx_next (pc := 120) (pc' := 122) rfl rfl ?_
  refine jx_next (pc := 122) (pc' := 123) rfl rfl ?_
  refine jx_iceq (pc := 123) rfl (fun hc19 => ?_) (fun hc19 => ?_)
  · replace K := (if_pos hc19).symm.trans K
    refine jx_le (pl' := [some (.ref 110), some (.int v1), none, none, none, none]) (jle_v (jle_v (jle_n (jle_n (jle_n (jle_n jle_nil)))))) ?_
    exact kM_qPartTold_l2_j144  hd K HL HE0
  · replace K := (if_neg hc19).symm.trans K
    refine jx_next (pc := 126) (pc' := 127) rfl rfl ?_
    refine jx_next (pc := 127) (pc' := 129) rfl rfl ?_
    refine jx_ifeq (pc := 129) rfl (fun hc21 => ?_) (fun hc21 => ?_)
    · replace K := (if_pos hc21).symm.trans K
      refine jx_next (pc := 137) (pc' := 139) rfl rfl ?_
      refine jx_le (pl' := [some (.ref 110), some (.int v1), none, none, none, some (.int s0)]) (jle_v (jle_v (jle_n (jle_n (jle_n (jle_v jle_nil)))))) ?_
      exact kM_qPartTold_l2_j139  hd K HL HE0
    · replace K := (if_neg hc21).symm.trans K
      refine jx_next (pc := 132) (pc' := 134) rfl rfl ?_
      refine jx_next (pc := 134) (pc' := 139) rfl rfl ?_
      refine jx_le (pl' := [some (.ref 110), some (.int v1), none, none, none, some (.int s0)]) (jle_v (jle_v (jle_n (jle_n (jle_n (jle_v jle_nil)))))) ?_
      exact kM_qPartTold_l2_j139  hd K HL HE0
noncomputable def fM_qPartTold_l2_j101 (v1 : Int32) (v4 : Int32) (h : jH) : Option ((Int32 × jH) ⊕ (jH)) :=
  (Option.bind (fM_look h) (fun (z17 : Int32 × jH) =>
  (if z17.1 = 40 then
  fM_qPartTold_l2_j118  v1 v4 (z17.2.1 110 2) z17.2
  else
  fM_qPartTold_l2_j118  v1 v4 (-1) z17.2)))
theorem kM_qPartTold_l2_j101 {X : jX} {dd : Nat} {p d : Nat} {q : Nat → Nat} {Q : Option Value → jS → Prop} {v1 : Int32} {v4 : Int32} {h : jH}  (hd : 5 ≤ (dd + 1)) {z : (Int32 × jH) ⊕ (jH)} (K : fM_qPartTold_l2_j101 v1 v4 h = some z) (HL : ∀ s : Int32 × jH, z = .inl s → jEx X (dd + 1) jc_213 2 [some (.ref 110), some (.int s.1), none, none, none, none] [] (176, jRf p d q, s.2) Q) (HE0 : ∀ x : jH, z = .inr x → jEx X (dd + 1) jc_213 186 [some (.ref 110), none, none, none, none, none] [] (176, jRf p d q, x) Q) :
    jEx X (dd + 1) jc_213 101 [some (.ref 110), some (.int v1), none, none, some (.int v4), none] [] (176, jRf p d q, h) Q := by
  unfold fM_qPartTold_l2_j101 at K
  refine jx_next (pc := 101) (pc' := 102) rfl rfl ?_
  refine jx_callv (pc := 102) (o := 110) (rest := []) rfl ⟨by decide, by decide⟩ rfl jko_110 (Nat.le_of_ble_eq_true rfl) ?_
  obtain ⟨z17, hz_z17, K⟩ := Option.bind_eq_some_iff.mp K
  refine kM_look  (by omega) hz_z17 ?_
  refine jx_next (pc := 105) (pc' := 107) rfl rfl ?_
  refine jx_icne (pc := 107) rfl (fun hc18 => ?_) (fun hc18 => ?_)
  · replace K := (if_pos hc18).symm.trans K
    refine jx_next (pc := 110) (pc' := 111) rfl rfl ?_
    refine jx_geti (pc := 111) rfl jko_110 ?_
    refine jx_next (pc := 114) (pc' := 118) rfl rfl ?_
    refine jx_le (pl' := [some (.ref 110), some (.int v1), none, none, some (.int v4), none]) (jle_v (jle_v (jle_n (jle_n (jle_v (jle_n jle_nil)))))) ?_
    exact kM_qPartTold_l2_j118  hd K HL HE0
  · replace K := (if_neg hc18).symm.trans K
    refine jx_next (pc := 117) (pc' := 118) rfl rfl ?_
    refine jx_le (pl' := [some (.ref 110), some (.int v1), none, none, some (.int v4), none]) (jle_v (jle_v (jle_n (jle_n (jle_v (jle_n jle_nil)))))) ?_
    exact kM_qPartTold_l2_j118  hd K HL HE0
noncomputable def fM_qPartTold_l2_j78 (v1 : Int32) (h : jH) : Option ((Int32 × jH) ⊕ (jH)) :=
  (Option.bind (fM_takes 163 h) (fun (z14 : Int32 × jH) =>
  (if z14.1 = 0 then
  (Option.bind (fM_asks 164 z14.2) (fun (z16 : jH) =>
  fM_qPartTold_l2_j101  v1 z14.1 z16))
  else
  fM_qPartTold_l2_j101  v1 z14.1 z14.2)))
theorem kM_qPartTold_l2_j78 {X : jX} {dd : Nat} {p d : Nat} {q : Nat → Nat} {Q : Option Value → jS → Prop} {v1 : Int32} {h : jH}  (hd : 5 ≤ (dd + 1)) {z : (Int32 × jH) ⊕ (jH)} (K : fM_qPartTold_l2_j78 v1 h = some z) (HL : ∀ s : Int32 × jH, z = .inl s → jEx X (dd + 1) jc_213 2 [some (.ref 110), some (.int s.1), none, none, none, none] [] (176, jRf p d q, s.2) Q) (HE0 : ∀ x : jH, z = .inr x → jEx X (dd + 1) jc_213 186 [some (.ref 110), none, none, none, none, none] [] (176, jRf p d q, x) Q) :
    jEx X (dd + 1) jc_213 78 [some (.ref 110), some (.int v1), none, none, none, none] [] (176, jRf p d q, h) Q := by
  unfold fM_qPartTold_l2_j78 at K
  refine jx_next (pc := 78) (pc' := 79) rfl rfl ?_
  refine jx_next (pc := 79) (pc' := 80) rfl rfl ?_
  refine jx_getr2 (pc := 80) rfl jko_110 jr_12_69 ?_
  refine jx_callv (pc := 83) (o := 110) (rest := []) rfl ⟨by decide, by decide⟩ rfl jko_110 (Nat.le_of_ble_eq_true rfl) ?_
  obtain ⟨z14, hz_z14, K⟩ := Option.bind_eq_some_iff.mp K
  refine kM_takes  jko_163 (by omega) hz_z14 ?_
  refine jx_sti (pc := 86) (p2 := [some (.ref 110), some (.int v1), none, none, some (.int z14.1), none]) rfl (jlt rfl) rfl ?_
  refine jx_next (pc := 88) (pc' := 90) rfl rfl ?_
  refine jx_ifne (pc := 90) rfl (fun hc15 => ?_) (fun hc15 => ?_)
  · replace K := (if_pos hc15).symm.trans K
    refine jx_next (pc := 93) (pc' := 94) rfl rfl ?_
    refine jx_next (pc := 94) (pc' := 95) rfl rfl ?_
    refine jx_getr2 (pc := 95) rfl jko_110 jr_12_70 ?_
    refine jx_callv (pc := 98) (o := 110) (rest := []) rfl ⟨by decide, by decide⟩ rfl jko_110 (Nat.le_of_ble_eq_true rfl) ?_
    obtain ⟨z16, hz_z16, K⟩ := Option.bind_eq_some_iff.mp K
    refine kM_asks  jko_164 (by omega) hz_z16 ?_
    refine jx_le (pl' := [some (.ref 110), some (.int v1), none, none, some (.int z14.1), none]) (jle_v (jle_v (jle_n (jle_n (jle_v (jle_n jle_nil)))))) ?_
    exact kM_qPartTold_l2_j101  hd K HL HE0
  · replace K := (if_neg hc15).symm.trans K
    refine jx_le (pl' := [some (.ref 110), some (.int v1), none, none, some (.int z14.1), none]) (jle_v (jle_v (jle_n (jle_n (jle_v (jle_n jle_nil)))))) ?_
    exact kM_qPartTold_l2_j101  hd K HL HE0
noncomputable def fM_qPartTold_l2_b (v1 : Int32) (h : jH) : Option ((Int32 × jH) ⊕ (jH)) :=
  (if v1 = 0 then
  some (.inr h)
  else
  (if (h.1 110 5) = 0 then
  (Option.bind (fM_look h) (fun (z3 : Int32 × jH) =>
  (Option.bind (fM_qWordOf 7 8 z3.2) (fun (z4 : Int32 × jH) =>
  (if z3.1 = 40 then
  (Option.bind (fM_qOpens 20 (z4.2.1 110 2) z4.2) (fun (z6 : jH) =>
  fM_qPartTold_l2_j183  v1 (jhI z6 110 2 ((z6.1 110 2) + 1))))
  else
  (Option.bind (fM_isHere 163 z4.2) (fun (z7 : Int32 × jH) =>
  (if z7.1 = 0 then
  (Option.bind (fM_isHere 164 z7.2) (fun (z9 : Int32 × jH) =>
  (if z9.1 = 0 then
  (if z4.1 = (-1) then
  fM_qPartTold_l2_j183  0 z9.2
  else
  (Option.bind (fM_qOpens ((60 + z4.1) - 7) (z9.2.1 110 2) z9.2) (fun (z12 : jH) =>
  (Option.bind (fM_qAsksWord z4.1 z12) (fun (z13 : jH) =>
  fM_qPartTold_l2_j183  v1 z13)))))
  else
  fM_qPartTold_l2_j78  v1 z9.2)))
  else
  fM_qPartTold_l2_j78  v1 z7.2))))))))
  else
  some (.inr h)))
noncomputable def fM_qPartTold_l2  : (Int32 × jH) → Option ((Int32 × jH) ⊕ (jH)) :=
  fun (s : Int32 × jH) => fM_qPartTold_l2_b s.1 s.2
theorem kM_qPartTold_l2_b {X : jX} {dd : Nat} {p d : Nat} {q : Nat → Nat} {Q : Option Value → jS → Prop} {v1 : Int32} {h : jH}  (hd : 5 ≤ (dd + 1)) {z : (Int32 × jH) ⊕ (jH)} (K : fM_qPartTold_l2_b v1 h = some z) (HL : ∀ s : Int32 × jH, z = .inl s → jEx X (dd + 1) jc_213 2 [some (.ref 110), some (.int s.1), none, none, none, none] [] (176, jRf p d q, s.2) Q) (HE0 : ∀ x : jH, z = .inr x → jEx X (dd + 1) jc_213 186 [some (.ref 110), none, none, none, none, none] [] (176, jRf p d q, x) Q) :
    jEx X (dd + 1) jc_213 2 [some (.ref 110), some (.int v1), none, none, none, none] [] (176, jRf p d q, h) Q := by
  unfold fM_qPartTold_l2_b at K
  refine jx_next (pc := 2) (pc' := 3) rfl rfl ?_
  refine jx_ifeq (pc := 3) rfl (fun hc1 => ?_) (fun hc1 => ?_)
  · replace K := (if_pos hc1).symm.trans K
    obtain rfl := Option.some.inj K
    refine jx_le (pl' := [some (.ref 110), none, none, none, none, none]) (jle_v (jle_n (jle_n (jle_n (jle_n (jle_n jle_nil)))))) ?_
    exact HE0 _ rfl
  · replace K := (if_neg hc1).symm.trans K
    refine jx_next (pc := 6) (pc' := 7) rfl rfl ?_
    refine jx_geti (pc := 7) rfl jko_110 ?_
    refine jx_ifne (pc := 10) rfl (fun hc2 => ?_) (fun hc2 => ?_)
    · replace K := (if_pos hc2).symm.trans K
      refine jx_next (pc := 13) (pc' := 14) rfl rfl ?_
      refine jx_callv (pc := 14) (o := 110) (rest := []) rfl ⟨by decide, by decide⟩ rfl jko_110 (Nat.le_of_ble_eq_true rfl) ?_
      obtain ⟨z3, hz_z3, K⟩ := Option.bind_eq_some_iff.mp K
      refine kM_look  (by omega) hz_z3 ?_
      refine jx_stin (pc := 17) (p2 := [some (.ref 110), some (.int v1), some (.int z3.1), none, none, none]) rfl (jlt rfl) rfl ?_
      refine jx_next (pc := 18) (pc' := 19) rfl rfl ?_
      refine jx_next (pc := 19) (pc' := 21) rfl rfl ?_
      refine jx_next (pc := 21) (pc' := 23) rfl rfl ?_
      refine jx_callv (pc := 23) (o := 110) (rest := []) rfl ⟨by decide, by decide⟩ rfl jko_110 (Nat.le_of_ble_eq_true rfl) ?_
      obtain ⟨z4, hz_z4, K⟩ := Option.bind_eq_some_iff.mp K
      refine kM_qWordOf  (by omega) hz_z4 ?_
      refine jx_stin (pc := 26) (p2 := [some (.ref 110), some (.int v1), some (.int z3.1), some (.int z4.1), none, none]) rfl (jlt rfl) rfl ?_
      refine jx_next (pc := 27) (pc' := 28) rfl rfl ?_
      refine jx_next (pc := 28) (pc' := 30) rfl rfl ?_
      refine jx_icne (pc := 30) rfl (fun hc5 => ?_) (fun hc5 => ?_)
      · replace K := (if_pos hc5).symm.trans K
        refine jx_next (pc := 33) (pc' := 34) rfl rfl ?_
        refine jx_next (pc := 34) (pc' := 36) rfl rfl ?_
        refine jx_next (pc := 36) (pc' := 37) rfl rfl ?_
        refine jx_geti (pc := 37) rfl jko_110 ?_
        refine jx_callv (pc := 40) (o := 110) (rest := []) rfl ⟨by decide, by decide⟩ rfl jko_110 (Nat.le_of_ble_eq_true rfl) ?_
        obtain ⟨z6, hz_z6, K⟩ := Option.bind_eq_some_iff.mp K
        refine kM_qOpens  (by omega) hz_z6 ?_
        refine jx_next (pc := 43) (pc' := 44) rfl rfl ?_
        refine jx_next (pc := 44) (pc' := 45) rfl rfl ?_
        refine jx_geti (pc := 45) rfl jko_110 ?_
        refine jx_next (pc := 48) (pc' := 49) rfl rfl ?_
        refine jx_next (pc := 49) (pc' := 50) rfl rfl ?_
        refine jx_puti (pc := 50) rfl jko_110 ?_
        refine jx_next (pc := 53) (pc' := 183) rfl rfl ?_
        refine jx_le (pl' := [some (.ref 110), some (.int v1), none, none, none, none]) (jle_v (jle_v (jle_n (jle_n (jle_n (jle_n jle_nil)))))) ?_
        exact kM_qPartTold_l2_j183  hd K HL HE0
      · replace K := (if_neg hc5).symm.trans K
        refine jx_next (pc := 56) (pc' := 57) rfl rfl ?_
        refine jx_next (pc := 57) (pc' := 58) rfl rfl ?_
        refine jx_getr2 (pc := 58) rfl jko_110 jr_12_69 ?_
        refine jx_callv (pc := 61) (o := 110) (rest := []) rfl ⟨by decide, by decide⟩ rfl jko_110 (Nat.le_of_ble_eq_true rfl) ?_
        obtain ⟨z7, hz_z7, K⟩ := Option.bind_eq_some_iff.mp K
        refine kM_isHere  jko_163 (by omega) hz_z7 ?_
        refine jx_ifne (pc := 64) rfl (fun hc8 => ?_) (fun hc8 => ?_)
        · replace K := (if_pos hc8).symm.trans K
          refine jx_next (pc := 67) (pc' := 68) rfl rfl ?_
          refine jx_next (pc := 68) (pc' := 69) rfl rfl ?_
          refine jx_getr2 (pc := 69) rfl jko_110 jr_12_70 ?_
          refine jx_callv (pc := 72) (o := 110) (rest := []) rfl ⟨by decide, by decide⟩ rfl jko_110 (Nat.le_of_ble_eq_true rfl) ?_
          obtain ⟨z9, hz_z9, K⟩ := Option.bind_eq_some_iff.mp K
          refine kM_isHere  jko_164 (by omega) hz_z9 ?_
          refine jx_ifeq (pc := 75) rfl (fun hc10 => ?_) (fun hc10 => ?_)
          · replace K := (if_pos hc10).symm.trans K
            refine jx_next (pc := 153) (pc' := 154) rfl rfl ?_
            refine jx_next (pc := 154) (pc' := 155) rfl rfl ?_
            refine jx_iceq (pc := 155) rfl (fun hc11 => ?_) (fun hc11 => ?_)
            · replace K := (if_pos hc11).symm.trans K
              refine jx_next (pc := 181) (pc' := 182) rfl rfl ?_
              refine jx_stin (pc := 182) (p2 := [some (.ref 110), some (.int 0), some (.int z3.1), some (.int z4.1), none, none]) rfl (jlt rfl) rfl ?_
              refine jx_le (pl' := [some (.ref 110), some (.int 0), none, none, none, none]) (jle_v (jle_v (jle_n (jle_n (jle_n (jle_n jle_nil)))))) ?_
              exact kM_qPartTold_l2_j183  hd K HL HE0
            · replace K := (if_neg hc11).symm.trans K
              refine jx_next (pc := 158) (pc' := 159) rfl rfl ?_
              refine jx_next (pc := 159) (pc' := 161) rfl rfl ?_
              refine jx_next (pc := 161) (pc' := 162) rfl rfl ?_
              refine jx_next (pc := 162) (pc' := 163) rfl rfl ?_
              refine jx_next (pc := 163) (pc' := 165) rfl rfl ?_
              refine jx_next (pc := 165) (pc' := 166) rfl rfl ?_
              refine jx_next (pc := 166) (pc' := 167) rfl rfl ?_
              refine jx_geti (pc := 167) rfl jko_110 ?_
              refine jx_callv (pc := 170) (o := 110) (rest := []) rfl ⟨by decide, by decide⟩ rfl jko_110 (Nat.le_of_ble_eq_true rfl) ?_
              obtain ⟨z12, hz_z12, K⟩ := Option.bind_eq_some_iff.mp K
              refine kM_qOpens  (by omega) hz_z12 ?_
              refine jx_next (pc := 173) (pc' := 174) rfl rfl ?_
              refine jx_next (pc := 174) (pc' := 175) rfl rfl ?_
              refine jx_callv (pc := 175) (o := 110) (rest := []) rfl ⟨by decide, by decide⟩ rfl jko_110 (Nat.le_of_ble_eq_true rfl) ?_
              obtain ⟨z13, hz_z13, K⟩ := Option.bind_eq_some_iff.mp K
              refine kM_qAsksWord  (by omega) hz_z13 ?_
              refine jx_next (pc := 178) (pc' := 183) rfl rfl ?_
              refine jx_le (pl' := [some (.ref 110), some (.int v1), none, none, none, none]) (jle_v (jle_v (jle_n (jle_n (jle_n (jle_n jle_nil)))))) ?_
              exact kM_qPartTold_l2_j183  hd K HL HE0
          · replace K := (if_neg hc10).symm.trans K
            refine jx_le (pl' := [some (.ref 110), some (.int v1), none, none, none, none]) (jle_v (jle_v (jle_n (jle_n (jle_n (jle_n jle_nil)))))) ?_
            exact kM_qPartTold_l2_j78  hd K HL HE0
        · replace K := (if_neg hc8).symm.trans K
          refine jx_le (pl' := [some (.ref 110), some (.int v1), none, none, none, none]) (jle_v (jle_v (jle_n (jle_n (jle_n (jle_n jle_nil)))))) ?_
          exact kM_qPartTold_l2_j78  hd K HL HE0
    · replace K := (if_neg hc2).symm.trans K
      obtain rfl := Option.some.inj K
      refine jx_le (pl' := [some (.ref 110), none, none, none, none, none]) (jle_v (jle_n (jle_n (jle_n (jle_n (jle_n jle_nil)))))) ?_
      exact HE0 _ rfl
theorem kM_qPartTold_l2_w {X : jX} {dd : Nat} {p d : Nat} {q : Nat → Nat} {Q : Option Value → jS → Prop}   (hd : 5 ≤ (dd + 1)) {s : Int32 × jH} {x : jH} (K : jlim (fM_qPartTold_l2 ) s = some x) (HE : jEx X (dd + 1) jc_213 186 [some (.ref 110), none, none, none, none, none] [] (176, jRf p d q, x) Q) :
    jEx X (dd + 1) jc_213 2 [some (.ref 110), some (.int s.1), none, none, none, none] [] (176, jRf p d q, s.2) Q := by
  refine jlim_ok (G := fun s : Int32 × jH => jEx X (dd + 1) jc_213 2 [some (.ref 110), some (.int s.1), none, none, none, none] [] (176, jRf p d q, s.2) Q) (GX := fun x : jH => jEx X (dd + 1) jc_213 186 [some (.ref 110), none, none, none, none, none] [] (176, jRf p d q, x) Q) (fun s z hz HL HE => ?_) K HE
  exact kM_qPartTold_l2_b  hd hz HL HE
noncomputable def fM_qPartTold_j237 (s1 : Int32) (h : jH) : Option jH :=
  (Option.bind (fM_qCode s1 h) (fun (z29 : jH) =>
  (Option.bind (fM_qEndsPart z29) (fun (z30 : jH) =>
  some z30))))
theorem kM_qPartTold_j237 {X : jX} {dd : Nat} {p d : Nat} {q : Nat → Nat} {Q : Option Value → jS → Prop} {s1 : Int32} {h : jH}  (hd : 5 ≤ (dd + 1)) {z : jH} (K : fM_qPartTold_j237 s1 h = some z) (HQ : Q none (176, jRf p d q, z)) :
    jEx X (dd + 1) jc_213 237 [some (.ref 110), none, none, none, none, none] [.int s1, .ref 110] (176, jRf p d q, h) Q := by
  unfold fM_qPartTold_j237 at K
  refine jx_callv (pc := 237) (o := 110) (rest := []) rfl ⟨by decide, by decide⟩ rfl jko_110 (Nat.le_of_ble_eq_true rfl) ?_
  obtain ⟨z29, hz_z29, K⟩ := Option.bind_eq_some_iff.mp K
  refine kM_qCode  (by omega) hz_z29 ?_
  refine jx_next (pc := 240) (pc' := 241) rfl rfl ?_
  refine jx_callv (pc := 241) (o := 110) (rest := []) rfl ⟨by decide, by decide⟩ rfl jko_110 (Nat.le_of_ble_eq_true rfl) ?_
  obtain ⟨z30, hz_z30, K⟩ := Option.bind_eq_some_iff.mp K
  refine kM_qEndsPart  (by omega) hz_z30 ?_
  obtain rfl := Option.some.inj K
  exact jx_ret (pc := 244) rfl rfl HQ
noncomputable def fM_qPartTold_j212 (v2 : Int32) (h : jH) : Option jH :=
  (if v2 = (-1) then
  (Option.bind (fM_number 0 9999 h) (fun (z28 : Int32 × jH) =>
  fM_qPartTold_j237  (1000 + z28.1) z28.2))
  else
  fM_qPartTold_j237  (40 + v2) h)
theorem kM_qPartTold_j212 {X : jX} {dd : Nat} {p d : Nat} {q : Nat → Nat} {Q : Option Value → jS → Prop} {v2 : Int32} {h : jH}  (hd : 5 ≤ (dd + 1)) {z : jH} (K : fM_qPartTold_j212 v2 h = some z) (HQ : Q none (176, jRf p d q, z)) :
    jEx X (dd + 1) jc_213 212 [some (.ref 110), none, some (.int v2), none, none, none] [] (176, jRf p d q, h) Q := by
  unfold fM_qPartTold_j212 at K
  refine jx_next (pc := 212) (pc' := 213) rfl rfl ?_
  refine jx_next (pc := 213) (pc' := 214) rfl rfl ?_
  refine jx_next (pc := 214) (pc' := 215) rfl rfl ?_
  refine jx_iceq (pc := 215) rfl (fun hc27 => ?_) (fun hc27 => ?_)
  · replace K := (if_pos hc27).symm.trans K
    refine jx_next (pc := 225) (pc' := 228) rfl rfl ?_
    refine jx_next (pc := 228) (pc' := 229) rfl rfl ?_
    refine jx_next (pc := 229) (pc' := 230) rfl rfl ?_
    refine jx_next (pc := 230) (pc' := 233) rfl rfl ?_
    refine jx_callv (pc := 233) (o := 110) (rest := [.int 1000, .ref 110]) rfl ⟨by decide, by decide⟩ rfl jko_110 (Nat.le_of_ble_eq_true rfl) ?_
    obtain ⟨z28, hz_z28, K⟩ := Option.bind_eq_some_iff.mp K
    refine kM_number  (by omega) hz_z28 ?_
    refine jx_next (pc := 236) (pc' := 237) rfl rfl ?_
    refine jx_le (pl' := [some (.ref 110), none, none, none, none, none]) (jle_v (jle_n (jle_n (jle_n (jle_n (jle_n jle_nil)))))) ?_
    exact kM_qPartTold_j237  hd K HQ
  · replace K := (if_neg hc27).symm.trans K
    refine jx_next (pc := 218) (pc' := 220) rfl rfl ?_
    refine jx_next (pc := 220) (pc' := 221) rfl rfl ?_
    refine jx_next (pc := 221) (pc' := 222) rfl rfl ?_
    refine jx_next (pc := 222) (pc' := 237) rfl rfl ?_
    refine jx_le (pl' := [some (.ref 110), none, none, none, none, none]) (jle_v (jle_n (jle_n (jle_n (jle_n (jle_n jle_nil)))))) ?_
    exact kM_qPartTold_j237  hd K HQ
/-- AndGuestModel.qPartTold()V -/
noncomputable def fM_qPartTold  (h : jH) : Option jH :=
  (Option.bind (jlim (fM_qPartTold_l2 ) (1, h)) (fun (x23 : jH) =>
  (if (x23.1 110 5) = 0 then
  (Option.bind (fM_qWordOf 0 7 x23) (fun (z25 : Int32 × jH) =>
  (if z25.1 = (-1) then
  fM_qPartTold_j212  z25.1 z25.2
  else
  (Option.bind (fM_qAsksWord z25.1 z25.2) (fun (z31 : jH) =>
  fM_qPartTold_j212  z25.1 z31)))))
  else
  some x23)))
theorem kM_qPartTold {X : jX} {dd : Nat} {p d : Nat} {q : Nat → Nat} {Q : Option Value → jS → Prop}  {h : jH}  (hd : 5 ≤ dd) {z : jH} (K : fM_qPartTold  h = some z) (HQ : Q none (176, jRf p d q, z)) :
    jCa X dd 213 [.ref 110] (176, jRf p d q, h) Q := by
  obtain ⟨dd, rfl⟩ : ∃ d9, dd = d9 + 1 := ⟨dd - 1, by omega⟩
  unfold fM_qPartTold at K
  refine jCa_of (es := jc_213) (pl := [some (.ref 110), none, none, none, none, none]) (M := jm_213) rfl rfl rfl rfl ?_
  refine jx_next (pc := 0) (pc' := 1) rfl rfl ?_
  refine jx_stin (pc := 1) (p2 := [some (.ref 110), some (.int 1), none, none, none, none]) rfl (jlt rfl) rfl ?_
  refine jx_le (pl' := [some (.ref 110), some (.int 1), none, none, none, none]) (jle_v (jle_v (jle_n (jle_n (jle_n (jle_n jle_nil)))))) ?_
  obtain ⟨x23, hz_x23, K⟩ := Option.bind_eq_some_iff.mp K
  refine kM_qPartTold_l2_w  hd hz_x23 ?_
  refine jx_next (pc := 186) (pc' := 187) rfl rfl ?_
  refine jx_geti (pc := 187) rfl jko_110 ?_
  refine jx_ifeq (pc := 190) rfl (fun hc24 => ?_) (fun hc24 => ?_)
  · replace K := (if_pos hc24).symm.trans K
    refine jx_next (pc := 194) (pc' := 195) rfl rfl ?_
    refine jx_next (pc := 195) (pc' := 196) rfl rfl ?_
    refine jx_next (pc := 196) (pc' := 198) rfl rfl ?_
    refine jx_callv (pc := 198) (o := 110) (rest := []) rfl ⟨by decide, by decide⟩ rfl jko_110 (Nat.le_of_ble_eq_true rfl) ?_
    obtain ⟨z25, hz_z25, K⟩ := Option.bind_eq_some_iff.mp K
    refine kM_qWordOf  (by omega) hz_z25 ?_
    refine jx_stin (pc := 201) (p2 := [some (.ref 110), none, some (.int z25.1), none, none, none]) rfl (jlt rfl) rfl ?_
    refine jx_next (pc := 202) (pc' := 203) rfl rfl ?_
    refine jx_next (pc := 203) (pc' := 204) rfl rfl ?_
    refine jx_iceq (pc := 204) rfl (fun hc26 => ?_) (fun hc26 => ?_)
    · replace K := (if_pos hc26).symm.trans K
      refine jx_le (pl' := [some (.ref 110), none, some (.int z25.1), none, none, none]) (jle_v (jle_n (jle_v (jle_n (jle_n (jle_n jle_nil)))))) ?_
      exact kM_qPartTold_j212  hd K HQ
    · replace K := (if_neg hc26).symm.trans K
      refine jx_next (pc := 207) (pc' := 208) rfl rfl ?_
      refine jx_next (pc := 208) (pc' := 209) rfl rfl ?_
      refine jx_callv (pc := 209) (o := 110) (rest := []) rfl ⟨by decide, by decide⟩ rfl jko_110 (Nat.le_of_ble_eq_true rfl) ?_
      obtain ⟨z31, hz_z31, K⟩ := Option.bind_eq_some_iff.mp K
      refine kM_qAsksWord  (by omega) hz_z31 ?_
      refine jx_le (pl' := [some (.ref 110), none, some (.int z25.1), none, none, none]) (jle_v (jle_n (jle_v (jle_n (jle_n (jle_n jle_nil)))))) ?_
      exact kM_qPartTold_j212  hd K HQ
  · replace K := (if_neg hc24).symm.trans K
    obtain rfl := Option.some.inj K
    exact jx_ret (pc := 193) rfl rfl HQ
