noncomputable def fM_qTest_l2_j106 (s0 : Int32) (h : jH) : Option ((Int32 × jH) ⊕ (jH)) :=
  some (.inl (s0, h))
theorem kM_qTest_l2_j106 {X : jX} {dd : Nat} {p d : Nat} {q : Nat → Nat} {Q : Option Value → jS → Prop} {s0 : Int32} {h : jH}  (hd : 8 ≤ (dd + 1)) {z : (Int32 × jH) ⊕ (jH)} (K : fM_qTest_l2_j106 s0 h = some z) (HL : ∀ s : Int32 × jH, z = .inl s → jEx X (dd + 1) jc_304 2 [some (.ref 110), some (.int s.1), none] [] (176, jRf p d q, s.2) Q) (HE0 : ∀ x : jH, z = .inr x → jEx X (dd + 1) jc_304 110 [some (.ref 110), none, none] [] (176, jRf p d q, x) Q) :
    jEx X (dd + 1) jc_304 106 [some (.ref 110), none, none] [.int s0] (176, jRf p d q, h) Q := by
  unfold fM_qTest_l2_j106 at K
  refine jx_stin (pc := 106) (p2 := [some (.ref 110), some (.int s0), none]) rfl (jlt rfl) rfl ?_
  refine jx_next (pc := 107) (pc' := 2) rfl rfl ?_
  obtain rfl := Option.some.inj K
  refine jx_le (pl' := [some (.ref 110), some (.int s0), none]) (jle_v (jle_v (jle_n jle_nil))) ?_
  exact HL (s0, h) rfl
noncomputable def fM_qTest_l2_j105  (h : jH) : Option ((Int32 × jH) ⊕ (jH)) :=
  fM_qTest_l2_j106  0 h
theorem kM_qTest_l2_j105 {X : jX} {dd : Nat} {p d : Nat} {q : Nat → Nat} {Q : Option Value → jS → Prop}  {h : jH}  (hd : 8 ≤ (dd + 1)) {z : (Int32 × jH) ⊕ (jH)} (K : fM_qTest_l2_j105  h = some z) (HL : ∀ s : Int32 × jH, z = .inl s → jEx X (dd + 1) jc_304 2 [some (.ref 110), some (.int s.1), none] [] (176, jRf p d q, s.2) Q) (HE0 : ∀ x : jH, z = .inr x → jEx X (dd + 1) jc_304 110 [some (.ref 110), none, none] [] (176, jRf p d q, x) Q) :
    jEx X (dd + 1) jc_304 105 [some (.ref 110), none, none] [] (176, jRf p d q, h) Q := by
  unfold fM_qTest_l2_j105 at K
  refine jx_next (pc := 105) (pc' := 106) rfl rfl ?_
  refine jx_le (pl' := [some (.ref 110), none, none]) (jle_v (jle_n (jle_n jle_nil))) ?_
  exact kM_qTest_l2_j106  hd K HL HE0
noncomputable def fM_qTest_l2_b (v1 : Int32) (h : jH) : Option ((Int32 × jH) ⊕ (jH)) :=
  (if v1 = 0 then
  some (.inr h)
  else
  (if (h.1 110 5) = 0 then
  (Option.bind (fM_look h) (fun (z3 : Int32 × jH) =>
  (if z3.1 = 91 then
  (Option.bind (fM_qOpens 25 (z3.2.1 110 2) z3.2) (fun (z5 : jH) =>
  some (.inl (v1, jhI z5 110 2 ((z5.1 110 2) + 1)))))
  else
  (Option.bind (fM_isHere 159 z3.2) (fun (z6 : Int32 × jH) =>
  (if z6.1 = 0 then
  (Option.bind (fM_qFact z6.2) (fun (z8 : jH) =>
  (Option.bind (fM_qDropsNots z8) (fun (z9 : jH) =>
  (if (z9.1 110 5) = 0 then
  (Option.bind (fM_qGoesOnTest z9) (fun (z11 : Int32 × jH) =>
  (if z11.1 = 0 then
  fM_qTest_l2_j105  z11.2
  else
  fM_qTest_l2_j106  1 z11.2)))
  else
  fM_qTest_l2_j105  z9)))))
  else
  (Option.bind (fM_qOpens 12 (z6.2.1 110 2) z6.2) (fun (z13 : jH) =>
  (Option.bind (fM_asks 159 z13) (fun (z14 : jH) =>
  some (.inl (v1, z14))))))))))))
  else
  some (.inr h)))
noncomputable def fM_qTest_l2  : (Int32 × jH) → Option ((Int32 × jH) ⊕ (jH)) :=
  fun (s : Int32 × jH) => fM_qTest_l2_b s.1 s.2
theorem kM_qTest_l2_b {X : jX} {dd : Nat} {p d : Nat} {q : Nat → Nat} {Q : Option Value → jS → Prop} {v1 : Int32} {h : jH}  (hd : 8 ≤ (dd + 1)) {z : (Int32 × jH) ⊕ (jH)} (K : fM_qTest_l2_b v1 h = some z) (HL : ∀ s : Int32 × jH, z = .inl s → jEx X (dd + 1) jc_304 2 [some (.ref 110), some (.int s.1), none] [] (176, jRf p d q, s.2) Q) (HE0 : ∀ x : jH, z = .inr x → jEx X (dd + 1) jc_304 110 [some (.ref 110), none, none] [] (176, jRf p d q, x) Q) :
    jEx X (dd + 1) jc_304 2 [some (.ref 110), some (.int v1), none] [] (176, jRf p d q, h) Q := by
  unfold fM_qTest_l2_b at K
  refine jx_next (pc := 2) (pc' := 3) rfl rfl ?_
  refine jx_ifeq (pc := 3) rfl (fun hc1 => ?_) (fun hc1 => ?_)
  · replace K := (if_pos hc1).symm.trans K
    obtain rfl := Option.some.inj K
    refine jx_le (pl' := [some (.ref 110), none, none]) (jle_v (jle_n (jle_n jle_nil))) ?_
    exact HE0 _ rfl
  · replace K := (if_neg hc1).symm.trans K
    refine jx_next (pc := 6) (pc' := 7) rfl rfl ?_
    refine jx_geti (pc := 7) rfl jko_110 ?_
    refine jx_ifne (pc := 10) rfl (fun hc2 => ?_) (fun hc2 => ?_)
    · replace K := (if_pos hc2).symm.trans K
      refine jx_next (pc := 13) (pc' := 14) rfl rfl ?_
      refine jx_callv (pc := 14) (o := 110) (rest := []) rfl ⟨by decide, by decide⟩ rfl jko_110 (Nat.le_of_ble_eq_true rfl) ?_
      obtain ⟨z3, hz_z3, K⟩ := Option.bind_eq_some_iff.mp K
      refine kM_look  (by omega) hz_z3 ?_
      refine jx_stin (pc := 17) (p2 := [some (.ref 110), some (.int v1), some (.int z3.1)]) rfl (jlt rfl) rfl ?_
      refine jx_next (pc := 18) (pc' := 19) rfl rfl ?_
      refine jx_next (pc := 19) (pc' := 21) rfl rfl ?_
      refine jx_icne (pc := 21) rfl (fun hc4 => ?_) (fun hc4 => ?_)
      · replace K := (if_pos hc4).symm.trans K
        refine jx_next (pc := 24) (pc' := 25) rfl rfl ?_
        refine jx_next (pc := 25) (pc' := 27) rfl rfl ?_
        refine jx_next (pc := 27) (pc' := 28) rfl rfl ?_
        refine jx_geti (pc := 28) rfl jko_110 ?_
        refine jx_callv (pc := 31) (o := 110) (rest := []) rfl ⟨by decide, by decide⟩ rfl jko_110 (Nat.le_of_ble_eq_true rfl) ?_
        obtain ⟨z5, hz_z5, K⟩ := Option.bind_eq_some_iff.mp K
        refine kM_qOpens  (by omega) hz_z5 ?_
        refine jx_next (pc := 34) (pc' := 35) rfl rfl ?_
        refine jx_next (pc := 35) (pc' := 36) rfl rfl ?_
        refine jx_geti (pc := 36) rfl jko_110 ?_
        refine jx_next (pc := 39) (pc' := 40) rfl rfl ?_
        refine jx_next (pc := 40) (pc' := 41) rfl rfl ?_
        refine jx_puti (pc := 41) rfl jko_110 ?_
        refine jx_next (pc := 44) (pc' := 2) rfl rfl ?_
        obtain rfl := Option.some.inj K
        refine jx_le (pl' := [some (.ref 110), some (.int v1), none]) (jle_v (jle_v (jle_n jle_nil))) ?_
        exact HL (v1, jhI z5 110 2 ((z5.1 110 2) + 1)) rfl
      · replace K := (if_neg hc4).symm.trans K
        refine jx_next (pc := 47) (pc' := 48) rfl rfl ?_
        refine jx_next (pc := 48) (pc' := 49) rfl rfl ?_
        refine jx_getr2 (pc := 49) rfl jko_110 jr_12_65 ?_
        refine jx_callv (pc := 52) (o := 110) (rest := []) rfl ⟨by decide, by decide⟩ rfl jko_110 (Nat.le_of_ble_eq_true rfl) ?_
        obtain ⟨z6, hz_z6, K⟩ := Option.bind_eq_some_iff.mp K
        refine kM_isHere  jko_159 (by omega) hz_z6 ?_
        refine jx_ifeq (pc := 55) rfl (fun hc7 => ?_) (fun hc7 => ?_)
        · replace K := (if_pos hc7).symm.trans K
          refine jx_next (pc := 79) (pc' := 80) rfl rfl ?_
          refine jx_callv (pc := 80) (o := 110) (rest := []) rfl ⟨by decide, by decide⟩ rfl jko_110 (Nat.le_of_ble_eq_true rfl) ?_
          obtain ⟨z8, hz_z8, K⟩ := Option.bind_eq_some_iff.mp K
          refine kM_qFact  (by omega) hz_z8 ?_
          refine jx_next (pc := 83) (pc' := 84) rfl rfl ?_
          refine jx_callv (pc := 84) (o := 110) (rest := []) rfl ⟨by decide, by decide⟩ rfl jko_110 (Nat.le_of_ble_eq_true rfl) ?_
          obtain ⟨z9, hz_z9, K⟩ := Option.bind_eq_some_iff.mp K
          refine kM_qDropsNots  (by omega) hz_z9 ?_
          refine jx_next (pc := 87) (pc' := 88) rfl rfl ?_
          refine jx_geti (pc := 88) rfl jko_110 ?_
          refine jx_ifne (pc := 91) rfl (fun hc10 => ?_) (fun hc10 => ?_)
          · replace K := (if_pos hc10).symm.trans K
            refine jx_next (pc := 94) (pc' := 95) rfl rfl ?_
            refine jx_callv (pc := 95) (o := 110) (rest := []) rfl ⟨by decide, by decide⟩ rfl jko_110 (Nat.le_of_ble_eq_true rfl) ?_
            obtain ⟨z11, hz_z11, K⟩ := Option.bind_eq_some_iff.mp K
            refine kM_qGoesOnTest  (by omega) hz_z11 ?_
            refine jx_ifeq (pc := 98) rfl (fun hc12 => ?_) (fun hc12 => ?_)
            · replace K := (if_pos hc12).symm.trans K
              refine jx_le (pl' := [some (.ref 110), none, none]) (jle_v (jle_n (jle_n jle_nil))) ?_
              exact kM_qTest_l2_j105  hd K HL HE0
            · replace K := (if_neg hc12).symm.trans K
              refine jx_next (pc := 101) (pc' := 102) rfl rfl ?_
              refine jx_next (pc := 102) (pc' := 106) rfl rfl ?_
              refine jx_le (pl' := [some (.ref 110), none, none]) (jle_v (jle_n (jle_n jle_nil))) ?_
              exact kM_qTest_l2_j106  hd K HL HE0
          · replace K := (if_neg hc10).symm.trans K
            refine jx_le (pl' := [some (.ref 110), none, none]) (jle_v (jle_n (jle_n jle_nil))) ?_
            exact kM_qTest_l2_j105  hd K HL HE0
        · replace K := (if_neg hc7).symm.trans K
          refine jx_next (pc := 58) (pc' := 59) rfl rfl ?_
          refine jx_next (pc := 59) (pc' := 61) rfl rfl ?_
          refine jx_next (pc := 61) (pc' := 62) rfl rfl ?_
          refine jx_geti (pc := 62) rfl jko_110 ?_
          refine jx_callv (pc := 65) (o := 110) (rest := []) rfl ⟨by decide, by decide⟩ rfl jko_110 (Nat.le_of_ble_eq_true rfl) ?_
          obtain ⟨z13, hz_z13, K⟩ := Option.bind_eq_some_iff.mp K
          refine kM_qOpens  (by omega) hz_z13 ?_
          refine jx_next (pc := 68) (pc' := 69) rfl rfl ?_
          refine jx_next (pc := 69) (pc' := 70) rfl rfl ?_
          refine jx_getr2 (pc := 70) rfl jko_110 jr_12_65 ?_
          refine jx_callv (pc := 73) (o := 110) (rest := []) rfl ⟨by decide, by decide⟩ rfl jko_110 (Nat.le_of_ble_eq_true rfl) ?_
          obtain ⟨z14, hz_z14, K⟩ := Option.bind_eq_some_iff.mp K
          refine kM_asks  jko_159 (by omega) hz_z14 ?_
          refine jx_next (pc := 76) (pc' := 2) rfl rfl ?_
          obtain rfl := Option.some.inj K
          refine jx_le (pl' := [some (.ref 110), some (.int v1), none]) (jle_v (jle_v (jle_n jle_nil))) ?_
          exact HL (v1, z14) rfl
    · replace K := (if_neg hc2).symm.trans K
      obtain rfl := Option.some.inj K
      refine jx_le (pl' := [some (.ref 110), none, none]) (jle_v (jle_n (jle_n jle_nil))) ?_
      exact HE0 _ rfl
theorem kM_qTest_l2_w {X : jX} {dd : Nat} {p d : Nat} {q : Nat → Nat} {Q : Option Value → jS → Prop}   (hd : 8 ≤ (dd + 1)) {s : Int32 × jH} {x : jH} (K : jlim (fM_qTest_l2 ) s = some x) (HE : jEx X (dd + 1) jc_304 110 [some (.ref 110), none, none] [] (176, jRf p d q, x) Q) :
    jEx X (dd + 1) jc_304 2 [some (.ref 110), some (.int s.1), none] [] (176, jRf p d q, s.2) Q := by
  refine jlim_ok (G := fun s : Int32 × jH => jEx X (dd + 1) jc_304 2 [some (.ref 110), some (.int s.1), none] [] (176, jRf p d q, s.2) Q) (GX := fun x : jH => jEx X (dd + 1) jc_304 110 [some (.ref 110), none, none] [] (176, jRf p d q, x) Q) (fun s z hz HL HE => ?_) K HE
  exact kM_qTest_l2_b  hd hz HL HE
noncomputable def fM_qTest_l110_b  (h : jH) : Option ((jH) ⊕ (jH)) :=
  (if (h.1 110 5) = 0 then
  (if 0 < (h.1 110 82) then
  (Option.bind (fM_qDrops h) (fun (z18 : jH) =>
  some (.inl z18)))
  else
  some (.inr h))
  else
  some (.inr h))
noncomputable def fM_qTest_l110  : jH → Option ((jH) ⊕ (jH)) :=
  fun (s : jH) => fM_qTest_l110_b  s
theorem kM_qTest_l110_b {X : jX} {dd : Nat} {p d : Nat} {q : Nat → Nat} {Q : Option Value → jS → Prop}  {h : jH}  (hd : 8 ≤ (dd + 1)) {z : (jH) ⊕ (jH)} (K : fM_qTest_l110_b  h = some z) (HL : ∀ s : jH, z = .inl s → jEx X (dd + 1) jc_304 110 [some (.ref 110), none, none] [] (176, jRf p d q, s) Q) (HE0 : ∀ x : jH, z = .inr x → jEx X (dd + 1) jc_304 131 [none, none, none] [] (176, jRf p d q, x) Q) :
    jEx X (dd + 1) jc_304 110 [some (.ref 110), none, none] [] (176, jRf p d q, h) Q := by
  unfold fM_qTest_l110_b at K
  refine jx_next (pc := 110) (pc' := 111) rfl rfl ?_
  refine jx_geti (pc := 111) rfl jko_110 ?_
  refine jx_ifne (pc := 114) rfl (fun hc16 => ?_) (fun hc16 => ?_)
  · replace K := (if_pos hc16).symm.trans K
    refine jx_next (pc := 117) (pc' := 118) rfl rfl ?_
    refine jx_geti (pc := 118) rfl jko_110 ?_
    refine jx_ifle (pc := 121) rfl (fun hc17 => ?_) (fun hc17 => ?_)
    · replace K := (if_pos hc17).symm.trans K
      refine jx_next (pc := 124) (pc' := 125) rfl rfl ?_
      refine jx_callv (pc := 125) (o := 110) (rest := []) rfl ⟨by decide, by decide⟩ rfl jko_110 (Nat.le_of_ble_eq_true rfl) ?_
      obtain ⟨z18, hz_z18, K⟩ := Option.bind_eq_some_iff.mp K
      refine kM_qDrops  (by omega) hz_z18 ?_
      refine jx_next (pc := 128) (pc' := 110) rfl rfl ?_
      obtain rfl := Option.some.inj K
      refine jx_le (pl' := [some (.ref 110), none, none]) (jle_v (jle_n (jle_n jle_nil))) ?_
      exact HL z18 rfl
    · replace K := (if_neg hc17).symm.trans K
      obtain rfl := Option.some.inj K
      refine jx_le (pl' := [none, none, none]) (jle_n (jle_n (jle_n jle_nil))) ?_
      exact HE0 _ rfl
  · replace K := (if_neg hc16).symm.trans K
    obtain rfl := Option.some.inj K
    refine jx_le (pl' := [none, none, none]) (jle_n (jle_n (jle_n jle_nil))) ?_
    exact HE0 _ rfl
theorem kM_qTest_l110_w {X : jX} {dd : Nat} {p d : Nat} {q : Nat → Nat} {Q : Option Value → jS → Prop}   (hd : 8 ≤ (dd + 1)) {s : jH} {x : jH} (K : jlim (fM_qTest_l110 ) s = some x) (HE : jEx X (dd + 1) jc_304 131 [none, none, none] [] (176, jRf p d q, x) Q) :
    jEx X (dd + 1) jc_304 110 [some (.ref 110), none, none] [] (176, jRf p d q, s) Q := by
  refine jlim_ok (G := fun s : jH => jEx X (dd + 1) jc_304 110 [some (.ref 110), none, none] [] (176, jRf p d q, s) Q) (GX := fun x : jH => jEx X (dd + 1) jc_304 131 [none, none, none] [] (176, jRf p d q, x) Q) (fun s z hz HL HE => ?_) K HE
  exact kM_qTest_l110_b  hd hz HL HE
/-- AndGuestModel.qTest()V -/
noncomputable def fM_qTest  (h : jH) : Option jH :=
  (Option.bind (jlim (fM_qTest_l2 ) (1, h)) (fun (x15 : jH) =>
  (Option.bind (jlim (fM_qTest_l110 ) x15) (fun (x19 : jH) =>
  some x19))))
theorem kM_qTest {X : jX} {dd : Nat} {p d : Nat} {q : Nat → Nat} {Q : Option Value → jS → Prop}  {h : jH}  (hd : 8 ≤ dd) {z : jH} (K : fM_qTest  h = some z) (HQ : Q none (176, jRf p d q, z)) :
    jCa X dd 304 [.ref 110] (176, jRf p d q, h) Q := by
  obtain ⟨dd, rfl⟩ : ∃ d9, dd = d9 + 1 := ⟨dd - 1, by omega⟩
  unfold fM_qTest at K
  refine jCa_of (es := jc_304) (pl := [some (.ref 110), none, none]) (M := jm_304) rfl rfl rfl rfl ?_
  refine jx_next (pc := 0) (pc' := 1) rfl rfl ?_
  refine jx_stin (pc := 1) (p2 := [some (.ref 110), some (.int 1), none]) rfl (jlt rfl) rfl ?_
  refine jx_le (pl' := [some (.ref 110), some (.int 1), none]) (jle_v (jle_v (jle_n jle_nil))) ?_
  obtain ⟨x15, hz_x15, K⟩ := Option.bind_eq_some_iff.mp K
  refine kM_qTest_l2_w  hd hz_x15 ?_
  refine jx_le (pl' := [some (.ref 110), none, none]) (jle_v (jle_n (jle_n jle_nil))) ?_
  obtain ⟨x19, hz_x19, K⟩ := Option.bind_eq_some_iff.mp K
  refine kM_qTest_l110_w  hd hz_x19 ?_
  obtain rfl := Option.some.inj K
  exact jx_ret (pc := 131) rfl rfl HQ
/-- AndGuestModel.qOf(IJI)J -/
noncomputable def fM_qOf (v1 : Int32) (v2 : Int64) (v4 : Int32) (h : jH) : Option Int64 :=
  (Option.bind (fM_guestMany h) (fun (z1 : Int32) =>
  (if (fM_isIn v2 0 ((z1 - 1).toInt64)) = 0 then
  some (0 : Int64)
  else
  (Option.bind (fM_farOf v2.toInt32 h) (fun (z4 : Int32) =>
  some (((z4 >>> (v4 &&& 31)) &&& 1).toInt64 : Int64))))))
theorem kM_qOf {X : jX} {dd : Nat} {p d : Nat} {q : Nat → Nat} {Q : Option Value → jS → Prop} {v1 : Int32} {v2 : Int64} {v4 : Int32} {h : jH}  (hd : 2 ≤ dd) {z : Int64} (K : fM_qOf v1 v2 v4 h = some z) (HQ : Q (some (.long z)) (176, jRf p d q, h)) :
    jCa X dd 310 [.ref 110, .int v1, .long v2, .int v4] (176, jRf p d q, h) Q := by
  obtain ⟨dd, rfl⟩ : ∃ d9, dd = d9 + 1 := ⟨dd - 1, by omega⟩
  unfold fM_qOf at K
  refine jCa_of (es := jc_310) (pl := [some (.ref 110), some (.int v1), some (.long v2), none, some (.int v4)]) (M := jm_310) rfl rfl rfl rfl ?_
  refine jx_next (pc := 0) (pc' := 1) rfl rfl ?_
  refine jx_lsw (pc := 1) rfl ?_
  refine jx_sw0 ?_
  refine jx_next (pc := 12) (pc' := 13) rfl rfl ?_
  refine jx_next (pc := 13) (pc' := 14) rfl rfl ?_
  refine jx_next (pc := 14) (pc' := 15) rfl rfl ?_
  refine jx_callv (pc := 15) (o := 110) (rest := [.long 0, .long v2]) rfl ⟨by decide, by decide⟩ rfl jko_110 (Nat.le_of_ble_eq_true rfl) ?_
  obtain ⟨z1, hz_z1, K⟩ := Option.bind_eq_some_iff.mp K
  refine kM_guestMany  (by omega) hz_z1 ?_
  refine jx_next (pc := 18) (pc' := 19) rfl rfl ?_
  refine jx_next (pc := 19) (pc' := 20) rfl rfl ?_
  refine jx_next (pc := 20) (pc' := 21) rfl rfl ?_
  refine jx_calls (pc := 21) rfl (Nat.le_of_ble_eq_true rfl) (Nat.le_of_ble_eq_true rfl) ?_
  refine kM_isIn  (by omega) rfl ?_
  refine jx_ifeq (pc := 24) rfl (fun hc3 => ?_) (fun hc3 => ?_)
  · replace K := (if_pos hc3).symm.trans K
    refine jx_next (pc := 42) (pc' := 43) rfl rfl ?_
    obtain rfl := Option.some.inj K
    exact jx_ret (pc := 43) rfl rfl HQ
  · replace K := (if_neg hc3).symm.trans K
    refine jx_next (pc := 27) (pc' := 28) rfl rfl ?_
    refine jx_next (pc := 28) (pc' := 29) rfl rfl ?_
    refine jx_next (pc := 29) (pc' := 30) rfl rfl ?_
    refine jx_callv (pc := 30) (o := 110) (rest := []) rfl ⟨by decide, by decide⟩ rfl jko_110 (Nat.le_of_ble_eq_true rfl) ?_
    obtain ⟨z4, hz_z4, K⟩ := Option.bind_eq_some_iff.mp K
    refine kM_farOf  (by omega) hz_z4 ?_
    refine jx_next (pc := 33) (pc' := 35) rfl rfl ?_
    refine jx_next (pc := 35) (pc' := 36) rfl rfl ?_
    refine jx_next (pc := 36) (pc' := 37) rfl rfl ?_
    refine jx_next (pc := 37) (pc' := 38) rfl rfl ?_
    refine jx_next (pc := 38) (pc' := 39) rfl rfl ?_
    refine jx_next (pc := 39) (pc' := 43) rfl rfl ?_
    obtain rfl := Option.some.inj K
    exact jx_ret (pc := 43) rfl rfl HQ
noncomputable def fM_qTold_l7_j162 (v1 : Int32) (v2 : Int32) (h : jH) : Option ((Int32 × jH) ⊕ (jH)) :=
  some (.inl (v2 + 1, h))
theorem kM_qTold_l7_j162 {X : jX} {dd : Nat} {p d : Nat} {q : Nat → Nat} {Q : Option Value → jS → Prop} {v1 : Int32} {v2 : Int32} {h : jH}  (hd : 3 ≤ (dd + 1)) {z : (Int32 × jH) ⊕ (jH)} (K : fM_qTold_l7_j162 v1 v2 h = some z) (HL : ∀ s : Int32 × jH, z = .inl s → jEx X (dd + 1) jc_309 7 [some (.ref 110), some (.int v1), some (.int s.1), none] [] (176, jRf p d q, s.2) Q) (HE0 : ∀ x : jH, z = .inr x → jEx X (dd + 1) jc_309 168 [some (.ref 110), none, none, none] [] (176, jRf p d q, x) Q) :
    jEx X (dd + 1) jc_309 162 [some (.ref 110), some (.int v1), some (.int v2), none] [] (176, jRf p d q, h) Q := by
  unfold fM_qTold_l7_j162 at K
  refine jx_inc (pc := 162) (x := v2) (p2 := [some (.ref 110), some (.int v1), some (.int (v2 + 1)), none]) rfl rfl (jlt rfl) rfl ?_
  refine jx_next (pc := 165) (pc' := 7) rfl rfl ?_
  obtain rfl := Option.some.inj K
  refine jx_le (pl' := [some (.ref 110), some (.int v1), some (.int (v2 + 1)), none]) (jle_v (jle_v (jle_v (jle_n jle_nil)))) ?_
  exact HL (v2 + 1, h) rfl
noncomputable def fM_qTold_l7_b (v1 : Int32) (v2 : Int32) (h : jH) : Option ((Int32 × jH) ⊕ (jH)) :=
  (if v2 < (h.1 110 80) then
  (if jin v2 1700 then
  (if (h.1 173 v2.toNatClampNeg) < 1000 then
  (if (h.1 173 v2.toNatClampNeg) < 60 then
  (if (h.1 173 v2.toNatClampNeg) < 40 then
  (if (h.1 173 v2.toNatClampNeg) = 13 then
  (Option.bind (fM_qPuts 1 h) (fun (z7 : jH) =>
  fM_qTold_l7_j162  v1 v2 z7))
  else
  (if (h.1 173 v2.toNatClampNeg) = 12 then
  (if jin ((h.1 110 86) - 1) 1700 then
  (if jin ((h.1 110 86) - 1) 1700 then
  fM_qTold_l7_j162  v1 v2 (jhL h 175 ((h.1 110 86) - 1).toNatClampNeg (1 - (h.2 175 ((h.1 110 86) - 1).toNatClampNeg)))
  else none)
  else none)
  else
  (Option.bind (fM_qJoins (h.1 173 v2.toNatClampNeg) h) (fun (z11 : jH) =>
  fM_qTold_l7_j162  v1 v2 z11))))
  else
  (Option.bind (fM_qPartOf ((h.1 173 v2.toNatClampNeg) - 40) v1 h) (fun (z12 : Int64) =>
  (Option.bind (fM_qPuts (fM_qClip z12) h) (fun (z14 : jH) =>
  fM_qTold_l7_j162  v1 v2 z14)))))
  else
  (if jin ((h.1 110 86) - 1) 1700 then
  (Option.bind (fM_qOf ((h.1 173 v2.toNatClampNeg) - 60) (h.2 175 ((h.1 110 86) - 1).toNatClampNeg) v1 h) (fun (z16 : Int64) =>
  (if jin ((h.1 110 86) - 1) 1700 then
  fM_qTold_l7_j162  v1 v2 (jhL h 175 ((h.1 110 86) - 1).toNatClampNeg (fM_qClip z16))
  else none)))
  else none))
  else
  (Option.bind (fM_qPuts (((h.1 173 v2.toNatClampNeg) - 1000).toInt64) h) (fun (z19 : jH) =>
  fM_qTold_l7_j162  v1 v2 z19)))
  else none)
  else
  some (.inr h))
noncomputable def fM_qTold_l7 (v1 : Int32) : (Int32 × jH) → Option ((Int32 × jH) ⊕ (jH)) :=
  fun (s : Int32 × jH) => fM_qTold_l7_b v1 s.1 s.2
theorem kM_qTold_l7_b {X : jX} {dd : Nat} {p d : Nat} {q : Nat → Nat} {Q : Option Value → jS → Prop} {v1 : Int32} {v2 : Int32} {h : jH}  (hd : 3 ≤ (dd + 1)) {z : (Int32 × jH) ⊕ (jH)} (K : fM_qTold_l7_b v1 v2 h = some z) (HL : ∀ s : Int32 × jH, z = .inl s → jEx X (dd + 1) jc_309 7 [some (.ref 110), some (.int v1), some (.int s.1), none] [] (176, jRf p d q, s.2) Q) (HE0 : ∀ x : jH, z = .inr x → jEx X (dd + 1) jc_309 168 [some (.ref 110), none, none, none] [] (176, jRf p d q, x) Q) :
    jEx X (dd + 1) jc_309 7 [some (.ref 110), some (.int v1), some (.int v2), none] [] (176, jRf p d q, h) Q := by
  unfold fM_qTold_l7_b at K
  refine jx_next (pc := 7) (pc' := 8) rfl rfl ?_
  refine jx_next (pc := 8) (pc' := 9) rfl rfl ?_
  refine jx_geti (pc := 9) rfl jko_110 ?_
  refine jx_icge (pc := 12) rfl (fun hc1 => ?_) (fun hc1 => ?_)
  · replace K := (if_pos hc1).symm.trans K
    refine jx_next (pc := 15) (pc' := 16) rfl rfl ?_
    refine jx_getr2 (pc := 16) rfl jko_110 jr_12_79 ?_
    refine jx_next (pc := 19) (pc' := 20) rfl rfl ?_
    obtain ⟨hg2, K⟩ := jguard K
    refine jx_iald2 (pc := 20) rfl jko_173 jno_173 hg2 ?_
    refine jx_stin (pc := 21) (p2 := [some (.ref 110), some (.int v1), some (.int v2), some (.int (h.1 173 v2.toNatClampNeg))]) rfl (jlt rfl) rfl ?_
    refine jx_next (pc := 22) (pc' := 23) rfl rfl ?_
    refine jx_next (pc := 23) (pc' := 26) rfl rfl ?_
    refine jx_iclt (pc := 26) rfl (fun hc3 => ?_) (fun hc3 => ?_)
    · replace K := (if_pos hc3).symm.trans K
      refine jx_next (pc := 42) (pc' := 43) rfl rfl ?_
      refine jx_next (pc := 43) (pc' := 45) rfl rfl ?_
      refine jx_iclt (pc := 45) rfl (fun hc4 => ?_) (fun hc4 => ?_)
      · replace K := (if_pos hc4).symm.trans K
        refine jx_next (pc := 85) (pc' := 86) rfl rfl ?_
        refine jx_next (pc := 86) (pc' := 88) rfl rfl ?_
        refine jx_iclt (pc := 88) rfl (fun hc5 => ?_) (fun hc5 => ?_)
        · replace K := (if_pos hc5).symm.trans K
          refine jx_next (pc := 110) (pc' := 111) rfl rfl ?_
          refine jx_next (pc := 111) (pc' := 113) rfl rfl ?_
          refine jx_icne (pc := 113) rfl (fun hc6 => ?_) (fun hc6 => ?_)
          · replace K := (if_pos hc6).symm.trans K
            refine jx_next (pc := 116) (pc' := 117) rfl rfl ?_
            refine jx_next (pc := 117) (pc' := 118) rfl rfl ?_
            refine jx_callv (pc := 118) (o := 110) (rest := []) rfl ⟨by decide, by decide⟩ rfl jko_110 (Nat.le_of_ble_eq_true rfl) ?_
            obtain ⟨z7, hz_z7, K⟩ := Option.bind_eq_some_iff.mp K
            refine kM_qPuts  (by omega) hz_z7 ?_
            refine jx_next (pc := 121) (pc' := 162) rfl rfl ?_
            refine jx_le (pl' := [some (.ref 110), some (.int v1), some (.int v2), none]) (jle_v (jle_v (jle_v (jle_n jle_nil)))) ?_
            exact kM_qTold_l7_j162  hd K HL HE0
          · replace K := (if_neg hc6).symm.trans K
            refine jx_next (pc := 124) (pc' := 125) rfl rfl ?_
            refine jx_next (pc := 125) (pc' := 127) rfl rfl ?_
            refine jx_icne (pc := 127) rfl (fun hc8 => ?_) (fun hc8 => ?_)
            · replace K := (if_pos hc8).symm.trans K
              refine jx_next (pc := 130) (pc' := 131) rfl rfl ?_
              refine jx_getr2 (pc := 131) rfl jko_110 jr_12_85 ?_
              refine jx_next (pc := 134) (pc' := 135) rfl rfl ?_
              refine jx_geti (pc := 135) rfl jko_110 ?_
              refine jx_next (pc := 138) (pc' := 139) rfl rfl ?_
              refine jx_next (pc := 139) (pc' := 140) rfl rfl ?_
              refine jx_next (pc := 140) (pc' := 141) rfl rfl ?_
              refine jx_next (pc := 141) (pc' := 142) rfl rfl ?_
              refine jx_getr2 (pc := 142) rfl jko_110 jr_12_85 ?_
              refine jx_next (pc := 145) (pc' := 146) rfl rfl ?_
              refine jx_geti (pc := 146) rfl jko_110 ?_
              refine jx_next (pc := 149) (pc' := 150) rfl rfl ?_
              refine jx_next (pc := 150) (pc' := 151) rfl rfl ?_
              obtain ⟨hg9, K⟩ := jguard K
              refine jx_lald2 (pc := 151) rfl jko_175 jno_175 hg9 ?_
              refine jx_next (pc := 152) (pc' := 153) rfl rfl ?_
              obtain ⟨hg10, K⟩ := jguard K
              refine jx_last2 (pc := 153) rfl jko_175 jno_175 hg10 ?_
              refine jx_next (pc := 154) (pc' := 162) rfl rfl ?_
              refine jx_le (pl' := [some (.ref 110), some (.int v1), some (.int v2), none]) (jle_v (jle_v (jle_v (jle_n jle_nil)))) ?_
              exact kM_qTold_l7_j162  hd K HL HE0
            · replace K := (if_neg hc8).symm.trans K
              refine jx_next (pc := 157) (pc' := 158) rfl rfl ?_
              refine jx_next (pc := 158) (pc' := 159) rfl rfl ?_
              refine jx_callv (pc := 159) (o := 110) (rest := []) rfl ⟨by decide, by decide⟩ rfl jko_110 (Nat.le_of_ble_eq_true rfl) ?_
              obtain ⟨z11, hz_z11, K⟩ := Option.bind_eq_some_iff.mp K
              refine kM_qJoins  (by omega) hz_z11 ?_
              refine jx_le (pl' := [some (.ref 110), some (.int v1), some (.int v2), none]) (jle_v (jle_v (jle_v (jle_n jle_nil)))) ?_
              exact kM_qTold_l7_j162  hd K HL HE0
        · replace K := (if_neg hc5).symm.trans K
          refine jx_next (pc := 91) (pc' := 92) rfl rfl ?_
          refine jx_next (pc := 92) (pc' := 93) rfl rfl ?_
          refine jx_next (pc := 93) (pc' := 94) rfl rfl ?_
          refine jx_next (pc := 94) (pc' := 96) rfl rfl ?_
          refine jx_next (pc := 96) (pc' := 97) rfl rfl ?_
          refine jx_next (pc := 97) (pc' := 98) rfl rfl ?_
          refine jx_callv (pc := 98) (o := 110) (rest := [.ref 110]) rfl ⟨by decide, by decide⟩ rfl jko_110 (Nat.le_of_ble_eq_true rfl) ?_
          obtain ⟨z12, hz_z12, K⟩ := Option.bind_eq_some_iff.mp K
          refine kM_qPartOf  (by omega) hz_z12 ?_
          refine jx_calls (pc := 101) rfl (Nat.le_of_ble_eq_true rfl) (Nat.le_of_ble_eq_true rfl) ?_
          refine kM_qClip  (by omega) rfl ?_
          refine jx_callv (pc := 104) (o := 110) (rest := []) rfl ⟨by decide, by decide⟩ rfl jko_110 (Nat.le_of_ble_eq_true rfl) ?_
          obtain ⟨z14, hz_z14, K⟩ := Option.bind_eq_some_iff.mp K
          refine kM_qPuts  (by omega) hz_z14 ?_
          refine jx_next (pc := 107) (pc' := 162) rfl rfl ?_
          refine jx_le (pl' := [some (.ref 110), some (.int v1), some (.int v2), none]) (jle_v (jle_v (jle_v (jle_n jle_nil)))) ?_
          exact kM_qTold_l7_j162  hd K HL HE0
      · replace K := (if_neg hc4).symm.trans K
        refine jx_next (pc := 48) (pc' := 49) rfl rfl ?_
        refine jx_getr2 (pc := 49) rfl jko_110 jr_12_85 ?_
        refine jx_next (pc := 52) (pc' := 53) rfl rfl ?_
        refine jx_geti (pc := 53) rfl jko_110 ?_
        refine jx_next (pc := 56) (pc' := 57) rfl rfl ?_
        refine jx_next (pc := 57) (pc' := 58) rfl rfl ?_
        refine jx_next (pc := 58) (pc' := 59) rfl rfl ?_
        refine jx_next (pc := 59) (pc' := 60) rfl rfl ?_
        refine jx_next (pc := 60) (pc' := 62) rfl rfl ?_
        refine jx_next (pc := 62) (pc' := 63) rfl rfl ?_
        refine jx_next (pc := 63) (pc' := 64) rfl rfl ?_
        refine jx_getr2 (pc := 64) rfl jko_110 jr_12_85 ?_
        refine jx_next (pc := 67) (pc' := 68) rfl rfl ?_
        refine jx_geti (pc := 68) rfl jko_110 ?_
        refine jx_next (pc := 71) (pc' := 72) rfl rfl ?_
        refine jx_next (pc := 72) (pc' := 73) rfl rfl ?_
        obtain ⟨hg15, K⟩ := jguard K
        refine jx_lald2 (pc := 73) rfl jko_175 jno_175 hg15 ?_
        refine jx_next (pc := 74) (pc' := 75) rfl rfl ?_
        refine jx_callv (pc := 75) (o := 110) (rest := [.int ((h.1 110 86) - 1), .ref 175]) rfl ⟨by decide, by decide⟩ rfl jko_110 (Nat.le_of_ble_eq_true rfl) ?_
        obtain ⟨z16, hz_z16, K⟩ := Option.bind_eq_some_iff.mp K
        refine kM_qOf  (by omega) hz_z16 ?_
        refine jx_calls (pc := 78) rfl (Nat.le_of_ble_eq_true rfl) (Nat.le_of_ble_eq_true rfl) ?_
        refine kM_qClip  (by omega) rfl ?_
        obtain ⟨hg18, K⟩ := jguard K
        refine jx_last2 (pc := 81) rfl jko_175 jno_175 hg18 ?_
        refine jx_next (pc := 82) (pc' := 162) rfl rfl ?_
        refine jx_le (pl' := [some (.ref 110), some (.int v1), some (.int v2), none]) (jle_v (jle_v (jle_v (jle_n jle_nil)))) ?_
        exact kM_qTold_l7_j162  hd K HL HE0
    · replace K := (if_neg hc3).symm.trans K
      refine jx_next (pc := 29) (pc' := 30) rfl rfl ?_
      refine jx_next (pc := 30) (pc' := 31) rfl rfl ?_
      refine jx_next (pc := 31) (pc' := 34) rfl rfl ?_
      refine jx_next (pc := 34) (pc' := 35) rfl rfl ?_
      refine jx_next (pc := 35) (pc' := 36) rfl rfl ?_
      refine jx_callv (pc := 36) (o := 110) (rest := []) rfl ⟨by decide, by decide⟩ rfl jko_110 (Nat.le_of_ble_eq_true rfl) ?_
      obtain ⟨z19, hz_z19, K⟩ := Option.bind_eq_some_iff.mp K
      refine kM_qPuts  (by omega) hz_z19 ?_
      refine jx_next (pc := 39) (pc' := 162) rfl rfl ?_
      refine jx_le (pl' := [some (.ref 110), some (.int v1), some (.int v2), none]) (jle_v (jle_v (jle_v (jle_n jle_nil)))) ?_
      exact kM_qTold_l7_j162  hd K HL HE0
  · replace K := (if_neg hc1).symm.trans K
    obtain rfl := Option.some.inj K
    refine jx_le (pl' := [some (.ref 110), none, none, none]) (jle_v (jle_n (jle_n (jle_n jle_nil)))) ?_
    exact HE0 _ rfl
theorem kM_qTold_l7_w {X : jX} {dd : Nat} {p d : Nat} {q : Nat → Nat} {Q : Option Value → jS → Prop} {v1 : Int32}  (hd : 3 ≤ (dd + 1)) {s : Int32 × jH} {x : jH} (K : jlim (fM_qTold_l7 v1) s = some x) (HE : jEx X (dd + 1) jc_309 168 [some (.ref 110), none, none, none] [] (176, jRf p d q, x) Q) :
    jEx X (dd + 1) jc_309 7 [some (.ref 110), some (.int v1), some (.int s.1), none] [] (176, jRf p d q, s.2) Q := by
  refine jlim_ok (G := fun s : Int32 × jH => jEx X (dd + 1) jc_309 7 [some (.ref 110), some (.int v1), some (.int s.1), none] [] (176, jRf p d q, s.2) Q) (GX := fun x : jH => jEx X (dd + 1) jc_309 168 [some (.ref 110), none, none, none] [] (176, jRf p d q, x) Q) (fun s z hz HL HE => ?_) K HE
  exact kM_qTold_l7_b  hd hz HL HE
/-- AndGuestModel.qTold(I)J -/
noncomputable def fM_qTold (v1 : Int32) (h : jH) : Option (Int64 × jH) :=
  (Option.bind (jlim (fM_qTold_l7  v1) (0, jhI h 110 86 0)) (fun (x20 : jH) =>
  (if jin 0 1700 then
  some (x20.2 175 (0 : Int32).toNatClampNeg, x20)
  else none)))
theorem kM_qTold {X : jX} {dd : Nat} {p d : Nat} {q : Nat → Nat} {Q : Option Value → jS → Prop} {v1 : Int32} {h : jH}  (hd : 3 ≤ dd) {z : Int64 × jH} (K : fM_qTold v1 h = some z) (HQ : Q (some (.long z.1)) (176, jRf p d q, z.2)) :
    jCa X dd 309 [.ref 110, .int v1] (176, jRf p d q, h) Q := by
  obtain ⟨dd, rfl⟩ : ∃ d9, dd = d9 + 1 := ⟨dd - 1, by omega⟩
  unfold fM_qTold at K
  refine jCa_of (es := jc_309) (pl := [some (.ref 110), some (.int v1), none, none]) (M := jm_309) rfl rfl rfl rfl ?_
  refine jx_next (pc := 0) (pc' := 1) rfl rfl ?_
  refine jx_next (pc := 1) (pc' := 2) rfl rfl ?_
  refine jx_puti (pc := 2) rfl jko_110 ?_
  refine jx_next (pc := 5) (pc' := 6) rfl rfl ?_
  refine jx_stin (pc := 6) (p2 := [some (.ref 110), some (.int v1), some (.int 0), none]) rfl (jlt rfl) rfl ?_
  refine jx_le (pl' := [some (.ref 110), some (.int v1), some (.int 0), none]) (jle_v (jle_v (jle_v (jle_n jle_nil)))) ?_
  obtain ⟨x20, hz_x20, K⟩ := Option.bind_eq_some_iff.mp K
  refine kM_qTold_l7_w  hd hz_x20 ?_
  refine jx_next (pc := 168) (pc' := 169) rfl rfl ?_
  refine jx_getr2 (pc := 169) rfl jko_110 jr_12_85 ?_
  refine jx_next (pc := 172) (pc' := 173) rfl rfl ?_
  obtain ⟨hg21, K⟩ := jguard K
  refine jx_lald2 (pc := 173) rfl jko_175 jno_175 hg21 ?_
  obtain rfl := Option.some.inj K
  exact jx_ret (pc := 174) rfl rfl HQ
noncomputable def fM_qTakes_j133  (h : jH) : jH :=
  jhI h 110 88 0
theorem kM_qTakes_j133 {X : jX} {dd : Nat} {p d : Nat} {q : Nat → Nat} {Q : Option Value → jS → Prop}  {h : jH}  (hd : 0 ≤ dd) {z : jH} (K : fM_qTakes_j133  h = z) (HQ : Q none (176, jRf p d q, z)) :
    jEx X dd jc_311 133 [some (.ref 110), none, none, none, none, none] [] (176, jRf p d q, h) Q := by
  unfold fM_qTakes_j133 at K
  refine jx_next (pc := 133) (pc' := 134) rfl rfl ?_
  refine jx_next (pc := 134) (pc' := 135) rfl rfl ?_
  refine jx_putz (pc := 135) rfl jko_110 (Or.inl rfl) ?_
  obtain rfl := K
  exact jx_ret (pc := 138) rfl rfl HQ
noncomputable def fM_qTakes_j128 (v2 : Int64) (h : jH) : jH :=
  fM_qTakes_j133  (jhL h 110 87 v2)
theorem kM_qTakes_j128 {X : jX} {dd : Nat} {p d : Nat} {q : Nat → Nat} {Q : Option Value → jS → Prop} {v2 : Int64} {h : jH}  (hd : 0 ≤ dd) {z : jH} (K : fM_qTakes_j128 v2 h = z) (HQ : Q none (176, jRf p d q, z)) :
    jEx X dd jc_311 128 [some (.ref 110), none, some (.long v2), none, none, none] [] (176, jRf p d q, h) Q := by
  unfold fM_qTakes_j128 at K
  refine jx_next (pc := 128) (pc' := 129) rfl rfl ?_
  refine jx_next (pc := 129) (pc' := 130) rfl rfl ?_
  refine jx_putl (pc := 130) rfl jko_110 ?_
  refine jx_le (pl' := [some (.ref 110), none, none, none, none, none]) (jle_v (jle_n (jle_n (jle_n (jle_n (jle_n jle_nil)))))) ?_
  exact kM_qTakes_j133  hd K HQ
noncomputable def fM_qTakes_j90 (v1 : Int32) (v2 : Int64) (h : jH) : jH :=
  (if 3 < v1 then
  (if (h.1 110 88) = 0 then
  (if v1 = 4 then
  (if (h.2 110 87) < v2 then
  fM_qTakes_j128  v2 h
  else
  fM_qTakes_j133  h)
  else
  (if v2 < (h.2 110 87) then
  fM_qTakes_j128  v2 h
  else
  fM_qTakes_j133  h))
  else
  fM_qTakes_j128  v2 h)
  else
  fM_qTakes_j133  h)
theorem kM_qTakes_j90 {X : jX} {dd : Nat} {p d : Nat} {q : Nat → Nat} {Q : Option Value → jS → Prop} {v1 : Int32} {v2 : Int64} {h : jH}  (hd : 0 ≤ dd) {z : jH} (K : fM_qTakes_j90 v1 v2 h = z) (HQ : Q none (176, jRf p d q, z)) :
    jEx X dd jc_311 90 [some (.ref 110), some (.int v1), some (.long v2), none, none, none] [] (176, jRf p d q, h) Q := by
  unfold fM_qTakes_j90 at K
  refine jx_next (pc := 90) (pc' := 91) rfl rfl ?_
  refine jx_next (pc := 91) (pc' := 92) rfl rfl ?_
  refine jx_icle (pc := 92) rfl (fun hc10 => ?_) (fun hc10 => ?_)
  · replace K := (if_pos hc10).symm.trans K
    refine jx_next (pc := 95) (pc' := 96) rfl rfl ?_
    refine jx_getz (pc := 96) rfl jko_110 ?_
    refine jx_ifne (pc := 99) rfl (fun hc11 => ?_) (fun hc11 => ?_)
    · replace K := (if_pos hc11).symm.trans K
      refine jx_next (pc := 102) (pc' := 103) rfl rfl ?_
      refine jx_next (pc := 103) (pc' := 104) rfl rfl ?_
      refine jx_icne (pc := 104) rfl (fun hc12 => ?_) (fun hc12 => ?_)
      · replace K := (if_pos hc12).symm.trans K
        refine jx_next (pc := 107) (pc' := 108) rfl rfl ?_
        refine jx_next (pc := 108) (pc' := 109) rfl rfl ?_
        refine jx_getl (pc := 109) rfl jko_110 ?_
        refine jx_lcle (pc := 112) rfl rfl (fun hc13 => ?_) (fun hc13 => ?_)
        · replace K := (if_pos hc13).symm.trans K
          refine jx_next (pc := 116) (pc' := 128) rfl rfl ?_
          refine jx_le (pl' := [some (.ref 110), none, some (.long v2), none, none, none]) (jle_v (jle_n (jle_v (jle_n (jle_n (jle_n jle_nil)))))) ?_
          exact kM_qTakes_j128  hd K HQ
        · replace K := (if_neg hc13).symm.trans K
          refine jx_le (pl' := [some (.ref 110), none, none, none, none, none]) (jle_v (jle_n (jle_n (jle_n (jle_n (jle_n jle_nil)))))) ?_
          exact kM_qTakes_j133  hd K HQ
      · replace K := (if_neg hc12).symm.trans K
        refine jx_next (pc := 119) (pc' := 120) rfl rfl ?_
        refine jx_next (pc := 120) (pc' := 121) rfl rfl ?_
        refine jx_getl (pc := 121) rfl jko_110 ?_
        refine jx_lcge (pc := 124) rfl rfl (fun hc14 => ?_) (fun hc14 => ?_)
        · replace K := (if_pos hc14).symm.trans K
          refine jx_le (pl' := [some (.ref 110), none, some (.long v2), none, none, none]) (jle_v (jle_n (jle_v (jle_n (jle_n (jle_n jle_nil)))))) ?_
          exact kM_qTakes_j128  hd K HQ
        · replace K := (if_neg hc14).symm.trans K
          refine jx_le (pl' := [some (.ref 110), none, none, none, none, none]) (jle_v (jle_n (jle_n (jle_n (jle_n (jle_n jle_nil)))))) ?_
          exact kM_qTakes_j133  hd K HQ
    · replace K := (if_neg hc11).symm.trans K
      refine jx_le (pl' := [some (.ref 110), none, some (.long v2), none, none, none]) (jle_v (jle_n (jle_v (jle_n (jle_n (jle_n jle_nil)))))) ?_
      exact kM_qTakes_j128  hd K HQ
  · replace K := (if_neg hc10).symm.trans K
    refine jx_le (pl' := [some (.ref 110), none, none, none, none, none]) (jle_v (jle_n (jle_n (jle_n (jle_n (jle_n jle_nil)))))) ?_
    exact kM_qTakes_j133  hd K HQ
noncomputable def fM_qTakes_j75 (v1 : Int32) (v2 : Int64) (h : jH) : jH :=
  (if v1 = 3 then
  fM_qTakes_j90  v1 v2 (jhL h 110 87 ((h.2 110 87) + v2))
  else
  fM_qTakes_j90  v1 v2 h)
theorem kM_qTakes_j75 {X : jX} {dd : Nat} {p d : Nat} {q : Nat → Nat} {Q : Option Value → jS → Prop} {v1 : Int32} {v2 : Int64} {h : jH}  (hd : 0 ≤ dd) {z : jH} (K : fM_qTakes_j75 v1 v2 h = z) (HQ : Q none (176, jRf p d q, z)) :
    jEx X dd jc_311 75 [some (.ref 110), some (.int v1), some (.long v2), none, none, none] [] (176, jRf p d q, h) Q := by
  unfold fM_qTakes_j75 at K
  refine jx_next (pc := 75) (pc' := 76) rfl rfl ?_
  refine jx_next (pc := 76) (pc' := 77) rfl rfl ?_
  refine jx_icne (pc := 77) rfl (fun hc9 => ?_) (fun hc9 => ?_)
  · replace K := (if_pos hc9).symm.trans K
    refine jx_next (pc := 80) (pc' := 81) rfl rfl ?_
    refine jx_next (pc := 81) (pc' := 82) rfl rfl ?_
    refine jx_getl (pc := 82) rfl jko_110 ?_
    refine jx_next (pc := 85) (pc' := 86) rfl rfl ?_
    refine jx_next (pc := 86) (pc' := 87) rfl rfl ?_
    refine jx_putl (pc := 87) rfl jko_110 ?_
    refine jx_le (pl' := [some (.ref 110), some (.int v1), some (.long v2), none, none, none]) (jle_v (jle_v (jle_v (jle_n (jle_n (jle_n jle_nil)))))) ?_
    exact kM_qTakes_j90  hd K HQ
  · replace K := (if_neg hc9).symm.trans K
    refine jx_le (pl' := [some (.ref 110), some (.int v1), some (.long v2), none, none, none]) (jle_v (jle_v (jle_v (jle_n (jle_n (jle_n jle_nil)))))) ?_
    exact kM_qTakes_j90  hd K HQ
noncomputable def fM_qTakes_j55 (v1 : Int32) (v2 : Int64) (v5 : Int32) (h : jH) : jH :=
  (if v1 = 2 then
  (if v5 = 0 then
  fM_qTakes_j75  v1 v2 h
  else
  fM_qTakes_j75  v1 v2 (jhL h 110 87 ((h.2 110 87) + 1)))
  else
  fM_qTakes_j75  v1 v2 h)
theorem kM_qTakes_j55 {X : jX} {dd : Nat} {p d : Nat} {q : Nat → Nat} {Q : Option Value → jS → Prop} {v1 : Int32} {v2 : Int64} {v5 : Int32} {h : jH}  (hd : 0 ≤ dd) {z : jH} (K : fM_qTakes_j55 v1 v2 v5 h = z) (HQ : Q none (176, jRf p d q, z)) :
    jEx X dd jc_311 55 [some (.ref 110), some (.int v1), some (.long v2), none, none, some (.int v5)] [] (176, jRf p d q, h) Q := by
  unfold fM_qTakes_j55 at K
  refine jx_next (pc := 55) (pc' := 56) rfl rfl ?_
  refine jx_next (pc := 56) (pc' := 57) rfl rfl ?_
  refine jx_icne (pc := 57) rfl (fun hc7 => ?_) (fun hc7 => ?_)
  · replace K := (if_pos hc7).symm.trans K
    refine jx_next (pc := 60) (pc' := 62) rfl rfl ?_
    refine jx_ifeq (pc := 62) rfl (fun hc8 => ?_) (fun hc8 => ?_)
    · replace K := (if_pos hc8).symm.trans K
      refine jx_le (pl' := [some (.ref 110), some (.int v1), some (.long v2), none, none, none]) (jle_v (jle_v (jle_v (jle_n (jle_n (jle_n jle_nil)))))) ?_
      exact kM_qTakes_j75  hd K HQ
    · replace K := (if_neg hc8).symm.trans K
      refine jx_next (pc := 65) (pc' := 66) rfl rfl ?_
      refine jx_next (pc := 66) (pc' := 67) rfl rfl ?_
      refine jx_getl (pc := 67) rfl jko_110 ?_
      refine jx_next (pc := 70) (pc' := 71) rfl rfl ?_
      refine jx_next (pc := 71) (pc' := 72) rfl rfl ?_
      refine jx_putl (pc := 72) rfl jko_110 ?_
      refine jx_le (pl' := [some (.ref 110), some (.int v1), some (.long v2), none, none, none]) (jle_v (jle_v (jle_v (jle_n (jle_n (jle_n jle_nil)))))) ?_
      exact kM_qTakes_j75  hd K HQ
  · replace K := (if_neg hc7).symm.trans K
    refine jx_le (pl' := [some (.ref 110), some (.int v1), some (.long v2), none, none, none]) (jle_v (jle_v (jle_v (jle_n (jle_n (jle_n jle_nil)))))) ?_
    exact kM_qTakes_j75  hd K HQ
noncomputable def fM_qTakes_j48 (v1 : Int32) (v2 : Int64) (v4 : Int32) (v5 : Int32) (h : jH) : jH :=
  fM_qTakes_j55  v1 v2 v5 (jhL h 110 87 v4.toInt64)
theorem kM_qTakes_j48 {X : jX} {dd : Nat} {p d : Nat} {q : Nat → Nat} {Q : Option Value → jS → Prop} {v1 : Int32} {v2 : Int64} {v4 : Int32} {v5 : Int32} {h : jH}  (hd : 0 ≤ dd) {z : jH} (K : fM_qTakes_j48 v1 v2 v4 v5 h = z) (HQ : Q none (176, jRf p d q, z)) :
    jEx X dd jc_311 48 [some (.ref 110), some (.int v1), some (.long v2), none, some (.int v4), some (.int v5)] [] (176, jRf p d q, h) Q := by
  unfold fM_qTakes_j48 at K
  refine jx_next (pc := 48) (pc' := 49) rfl rfl ?_
  refine jx_next (pc := 49) (pc' := 51) rfl rfl ?_
  refine jx_next (pc := 51) (pc' := 52) rfl rfl ?_
  refine jx_putl (pc := 52) rfl jko_110 ?_
  refine jx_le (pl' := [some (.ref 110), some (.int v1), some (.long v2), none, none, some (.int v5)]) (jle_v (jle_v (jle_v (jle_n (jle_n (jle_v jle_nil)))))) ?_
  exact kM_qTakes_j55  hd K HQ
noncomputable def fM_qTakes_j38 (v1 : Int32) (v2 : Int64) (v4 : Int32) (v5 : Int32) (h : jH) : jH :=
  (if v1 = 1 then
  (if v5 = 0 then
  fM_qTakes_j55  v1 v2 v5 h
  else
  fM_qTakes_j48  v1 v2 v4 v5 h)
  else
  fM_qTakes_j55  v1 v2 v5 h)
theorem kM_qTakes_j38 {X : jX} {dd : Nat} {p d : Nat} {q : Nat → Nat} {Q : Option Value → jS → Prop} {v1 : Int32} {v2 : Int64} {v4 : Int32} {v5 : Int32} {h : jH}  (hd : 0 ≤ dd) {z : jH} (K : fM_qTakes_j38 v1 v2 v4 v5 h = z) (HQ : Q none (176, jRf p d q, z)) :
    jEx X dd jc_311 38 [some (.ref 110), some (.int v1), some (.long v2), none, some (.int v4), some (.int v5)] [] (176, jRf p d q, h) Q := by
  unfold fM_qTakes_j38 at K
  refine jx_next (pc := 38) (pc' := 39) rfl rfl ?_
  refine jx_next (pc := 39) (pc' := 40) rfl rfl ?_
  refine jx_icne (pc := 40) rfl (fun hc5 => ?_) (fun hc5 => ?_)
  · replace K := (if_pos hc5).symm.trans K
    refine jx_next (pc := 43) (pc' := 45) rfl rfl ?_
    refine jx_ifeq (pc := 45) rfl (fun hc6 => ?_) (fun hc6 => ?_)
    · replace K := (if_pos hc6).symm.trans K
      refine jx_le (pl' := [some (.ref 110), some (.int v1), some (.long v2), none, none, some (.int v5)]) (jle_v (jle_v (jle_v (jle_n (jle_n (jle_v jle_nil)))))) ?_
      exact kM_qTakes_j55  hd K HQ
    · replace K := (if_neg hc6).symm.trans K
      refine jx_le (pl' := [some (.ref 110), some (.int v1), some (.long v2), none, some (.int v4), some (.int v5)]) (jle_v (jle_v (jle_v (jle_n (jle_v (jle_v jle_nil)))))) ?_
      exact kM_qTakes_j48  hd K HQ
  · replace K := (if_neg hc5).symm.trans K
    refine jx_le (pl' := [some (.ref 110), some (.int v1), some (.long v2), none, none, some (.int v5)]) (jle_v (jle_v (jle_v (jle_n (jle_n (jle_v jle_nil)))))) ?_
    exact kM_qTakes_j55  hd K HQ
noncomputable def fM_qTakes_j16 (v1 : Int32) (v2 : Int64) (v4 : Int32) (s0 : Int32) (h : jH) : jH :=
  (if v1 = 0 then
  (if s0 = 0 then
  fM_qTakes_j38  v1 v2 v4 s0 h
  else
  (if (h.2 110 87) = (-1) then
  fM_qTakes_j48  v1 v2 v4 s0 h
  else
  fM_qTakes_j38  v1 v2 v4 s0 h))
  else
  fM_qTakes_j38  v1 v2 v4 s0 h)
theorem kM_qTakes_j16 {X : jX} {dd : Nat} {p d : Nat} {q : Nat → Nat} {Q : Option Value → jS → Prop} {v1 : Int32} {v2 : Int64} {v4 : Int32} {s0 : Int32} {h : jH}  (hd : 0 ≤ dd) {z : jH} (K : fM_qTakes_j16 v1 v2 v4 s0 h = z) (HQ : Q none (176, jRf p d q, z)) :
    jEx X dd jc_311 16 [some (.ref 110), some (.int v1), some (.long v2), none, some (.int v4), none] [.int s0] (176, jRf p d q, h) Q := by
  unfold fM_qTakes_j16 at K
  refine jx_sti (pc := 16) (p2 := [some (.ref 110), some (.int v1), some (.long v2), none, some (.int v4), some (.int s0)]) rfl (jlt rfl) rfl ?_
  refine jx_next (pc := 18) (pc' := 19) rfl rfl ?_
  refine jx_ifne (pc := 19) rfl (fun hc3 => ?_) (fun hc3 => ?_)
  · replace K := (if_pos hc3).symm.trans K
    refine jx_next (pc := 22) (pc' := 24) rfl rfl ?_
    refine jx_ifeq (pc := 24) rfl (fun hc4 => ?_) (fun hc4 => ?_)
    · replace K := (if_pos hc4).symm.trans K
      refine jx_le (pl' := [some (.ref 110), some (.int v1), some (.long v2), none, some (.int v4), some (.int s0)]) (jle_v (jle_v (jle_v (jle_n (jle_v (jle_v jle_nil)))))) ?_
      exact kM_qTakes_j38  hd K HQ
    · replace K := (if_neg hc4).symm.trans K
      refine jx_next (pc := 27) (pc' := 28) rfl rfl ?_
      refine jx_getl (pc := 28) rfl jko_110 ?_
      refine jx_next (pc := 31) (pc' := 34) rfl rfl ?_
      refine jx_lceq (pc := 34) rfl rfl (fun hc15 => ?_) (fun hc15 => ?_)
      · replace K := (if_pos hc15).symm.trans K
        refine jx_le (pl' := [some (.ref 110), some (.int v1), some (.long v2), none, some (.int v4), some (.int s0)]) (jle_v (jle_v (jle_v (jle_n (jle_v (jle_v jle_nil)))))) ?_
        exact kM_qTakes_j48  hd K HQ
      · replace K := (if_neg hc15).symm.trans K
        refine jx_le (pl' := [some (.ref 110), some (.int v1), some (.long v2), none, some (.int v4), some (.int s0)]) (jle_v (jle_v (jle_v (jle_n (jle_v (jle_v jle_nil)))))) ?_
        exact kM_qTakes_j38  hd K HQ
  · replace K := (if_neg hc3).symm.trans K
    refine jx_le (pl' := [some (.ref 110), some (.int v1), some (.long v2), none, some (.int v4), some (.int s0)]) (jle_v (jle_v (jle_v (jle_n (jle_v (jle_v jle_nil)))))) ?_
    exact kM_qTakes_j38  hd K HQ
noncomputable def fM_qTakes_j15 (v1 : Int32) (v2 : Int64) (v4 : Int32) (h : jH) : jH :=
  fM_qTakes_j16  v1 v2 v4 0 h
theorem kM_qTakes_j15 {X : jX} {dd : Nat} {p d : Nat} {q : Nat → Nat} {Q : Option Value → jS → Prop} {v1 : Int32} {v2 : Int64} {v4 : Int32} {h : jH}  (hd : 0 ≤ dd) {z : jH} (K : fM_qTakes_j15 v1 v2 v4 h = z) (HQ : Q none (176, jRf p d q, z)) :
    jEx X dd jc_311 15 [some (.ref 110), some (.int v1), some (.long v2), none, some (.int v4), none] [] (176, jRf p d q, h) Q := by
  unfold fM_qTakes_j15 at K
  refine jx_next (pc := 15) (pc' := 16) rfl rfl ?_
  refine jx_le (pl' := [some (.ref 110), some (.int v1), some (.long v2), none, some (.int v4), none]) (jle_v (jle_v (jle_v (jle_n (jle_v (jle_n jle_nil)))))) ?_
  exact kM_qTakes_j16  hd K HQ
/-- AndGuestModel.qTakes(IJI)V -/
noncomputable def fM_qTakes (v1 : Int32) (v2 : Int64) (v4 : Int32) (h : jH) : jH :=
  (if v1 < 3 then
  (if v2 = 1 then
  fM_qTakes_j16  v1 v2 v4 1 h
  else
  fM_qTakes_j15  v1 v2 v4 h)
  else
  fM_qTakes_j15  v1 v2 v4 h)
theorem kM_qTakes {X : jX} {dd : Nat} {p d : Nat} {q : Nat → Nat} {Q : Option Value → jS → Prop} {v1 : Int32} {v2 : Int64} {v4 : Int32} {h : jH}  (hd : 0 ≤ dd) {z : jH} (K : fM_qTakes v1 v2 v4 h = z) (HQ : Q none (176, jRf p d q, z)) :
    jCa X dd 311 [.ref 110, .int v1, .long v2, .int v4] (176, jRf p d q, h) Q := by
  unfold fM_qTakes at K
  refine jCa_of (es := jc_311) (pl := [some (.ref 110), some (.int v1), some (.long v2), none, some (.int v4), none]) (M := jm_311) rfl rfl rfl rfl ?_
  refine jx_next (pc := 0) (pc' := 1) rfl rfl ?_
  refine jx_next (pc := 1) (pc' := 2) rfl rfl ?_
  refine jx_icge (pc := 2) rfl (fun hc1 => ?_) (fun hc1 => ?_)
  · replace K := (if_pos hc1).symm.trans K
    refine jx_next (pc := 5) (pc' := 6) rfl rfl ?_
    refine jx_next (pc := 6) (pc' := 7) rfl rfl ?_
    refine jx_lcne (pc := 7) rfl rfl (fun hc2 => ?_) (fun hc2 => ?_)
    · replace K := (if_pos hc2).symm.trans K
      refine jx_next (pc := 11) (pc' := 12) rfl rfl ?_
      refine jx_next (pc := 12) (pc' := 16) rfl rfl ?_
      refine jx_le (pl' := [some (.ref 110), some (.int v1), some (.long v2), none, some (.int v4), none]) (jle_v (jle_v (jle_v (jle_n (jle_v (jle_n jle_nil)))))) ?_
      exact kM_qTakes_j16  hd K HQ
    · replace K := (if_neg hc2).symm.trans K
      refine jx_le (pl' := [some (.ref 110), some (.int v1), some (.long v2), none, some (.int v4), none]) (jle_v (jle_v (jle_v (jle_n (jle_v (jle_n jle_nil)))))) ?_
      exact kM_qTakes_j15  hd K HQ
  · replace K := (if_neg hc1).symm.trans K
    refine jx_le (pl' := [some (.ref 110), some (.int v1), some (.long v2), none, some (.int v4), none]) (jle_v (jle_v (jle_v (jle_n (jle_v (jle_n jle_nil)))))) ?_
    exact kM_qTakes_j15  hd K HQ
noncomputable def fM_ask_l188_b (v1 : Int32) (v2 : Int32) (h : jH) : Option ((Int32 × jH) ⊕ (jH)) :=
  (Option.bind (fM_guestMany h) (fun (z11 : Int32) =>
  (if v2 < z11 then
  (Option.bind (fM_qTold v2 h) (fun (z13 : Int64 × jH) =>
  some (.inl (v2 + 1, (fM_qTakes v1 z13.1 v2 z13.2)))))
  else
  some (.inr h))))
noncomputable def fM_ask_l188 (v1 : Int32) : (Int32 × jH) → Option ((Int32 × jH) ⊕ (jH)) :=
  fun (s : Int32 × jH) => fM_ask_l188_b v1 s.1 s.2
theorem kM_ask_l188_b {X : jX} {dd : Nat} {p d : Nat} {q : Nat → Nat} {Q : Option Value → jS → Prop} {v1 : Int32} {v2 : Int32} {h : jH}  (hd : 9 ≤ (dd + 1)) {z : (Int32 × jH) ⊕ (jH)} (K : fM_ask_l188_b v1 v2 h = some z) (HL : ∀ s : Int32 × jH, z = .inl s → jEx X (dd + 1) jc_302 188 [some (.ref 110), some (.int v1), some (.int s.1)] [] (176, jRf p d q, s.2) Q) (HE0 : ∀ x : jH, z = .inr x → jEx X (dd + 1) jc_302 213 [some (.ref 110), none, none] [] (176, jRf p d q, x) Q) :
    jEx X (dd + 1) jc_302 188 [some (.ref 110), some (.int v1), some (.int v2)] [] (176, jRf p d q, h) Q := by
  unfold fM_ask_l188_b at K
  refine jx_next (pc := 188) (pc' := 189) rfl rfl ?_
  refine jx_next (pc := 189) (pc' := 190) rfl rfl ?_
  refine jx_callv (pc := 190) (o := 110) (rest := [.int v2]) rfl ⟨by decide, by decide⟩ rfl jko_110 (Nat.le_of_ble_eq_true rfl) ?_
  obtain ⟨z11, hz_z11, K⟩ := Option.bind_eq_some_iff.mp K
  refine kM_guestMany  (by omega) hz_z11 ?_
  refine jx_icge (pc := 193) rfl (fun hc12 => ?_) (fun hc12 => ?_)
  · replace K := (if_pos hc12).symm.trans K
    refine jx_next (pc := 196) (pc' := 197) rfl rfl ?_
    refine jx_next (pc := 197) (pc' := 198) rfl rfl ?_
    refine jx_next (pc := 198) (pc' := 199) rfl rfl ?_
    refine jx_next (pc := 199) (pc' := 200) rfl rfl ?_
    refine jx_callv (pc := 200) (o := 110) (rest := [.int v1, .ref 110]) rfl ⟨by decide, by decide⟩ rfl jko_110 (Nat.le_of_ble_eq_true rfl) ?_
    obtain ⟨z13, hz_z13, K⟩ := Option.bind_eq_some_iff.mp K
    refine kM_qTold  (by omega) hz_z13 ?_
    refine jx_next (pc := 203) (pc' := 204) rfl rfl ?_
    refine jx_callv (pc := 204) (o := 110) (rest := []) rfl ⟨by decide, by decide⟩ rfl jko_110 (Nat.le_of_ble_eq_true rfl) ?_
    refine kM_qTakes  (by omega) rfl ?_
    refine jx_inc (pc := 207) (x := v2) (p2 := [some (.ref 110), some (.int v1), some (.int (v2 + 1))]) rfl rfl (jlt rfl) rfl ?_
    refine jx_next (pc := 210) (pc' := 188) rfl rfl ?_
    obtain rfl := Option.some.inj K
    refine jx_le (pl' := [some (.ref 110), some (.int v1), some (.int (v2 + 1))]) (jle_v (jle_v (jle_v jle_nil))) ?_
    exact HL (v2 + 1, (fM_qTakes v1 z13.1 v2 z13.2)) rfl
  · replace K := (if_neg hc12).symm.trans K
    obtain rfl := Option.some.inj K
    refine jx_le (pl' := [some (.ref 110), none, none]) (jle_v (jle_n (jle_n jle_nil))) ?_
    exact HE0 _ rfl
theorem kM_ask_l188_w {X : jX} {dd : Nat} {p d : Nat} {q : Nat → Nat} {Q : Option Value → jS → Prop} {v1 : Int32}  (hd : 9 ≤ (dd + 1)) {s : Int32 × jH} {x : jH} (K : jlim (fM_ask_l188 v1) s = some x) (HE : jEx X (dd + 1) jc_302 213 [some (.ref 110), none, none] [] (176, jRf p d q, x) Q) :
    jEx X (dd + 1) jc_302 188 [some (.ref 110), some (.int v1), some (.int s.1)] [] (176, jRf p d q, s.2) Q := by
  refine jlim_ok (G := fun s : Int32 × jH => jEx X (dd + 1) jc_302 188 [some (.ref 110), some (.int v1), some (.int s.1)] [] (176, jRf p d q, s.2) Q) (GX := fun x : jH => jEx X (dd + 1) jc_302 213 [some (.ref 110), none, none] [] (176, jRf p d q, x) Q) (fun s z hz HL HE => ?_) K HE
  exact kM_ask_l188_b  hd hz HL HE
noncomputable def fM_ask_j173 (v1 : Int32) (s1 : Int64) (h : jH) : Option (Int64 × jH) :=
  (Option.bind (jlim (fM_ask_l188  v1) (0, jhI (jhI (jhL h 110 87 s1) 110 88 1) 110 49 0)) (fun (x15 : jH) =>
  some (x15.2 110 87, x15)))
theorem kM_ask_j173 {X : jX} {dd : Nat} {p d : Nat} {q : Nat → Nat} {Q : Option Value → jS → Prop} {v1 : Int32} {s1 : Int64} {h : jH}  (hd : 9 ≤ (dd + 1)) {z : Int64 × jH} (K : fM_ask_j173 v1 s1 h = some z) (HQ : Q (some (.long z.1)) (176, jRf p d q, z.2)) :
    jEx X (dd + 1) jc_302 173 [some (.ref 110), some (.int v1), none] [.long s1, .ref 110] (176, jRf p d q, h) Q := by
  unfold fM_ask_j173 at K
  refine jx_putl (pc := 173) rfl jko_110 ?_
  refine jx_next (pc := 176) (pc' := 177) rfl rfl ?_
  refine jx_next (pc := 177) (pc' := 178) rfl rfl ?_
  refine jx_putz (pc := 178) rfl jko_110 (Or.inr rfl) ?_
  refine jx_next (pc := 181) (pc' := 182) rfl rfl ?_
  refine jx_next (pc := 182) (pc' := 183) rfl rfl ?_
  refine jx_putz (pc := 183) rfl jko_110 (Or.inl rfl) ?_
  refine jx_next (pc := 186) (pc' := 187) rfl rfl ?_
  refine jx_stin (pc := 187) (p2 := [some (.ref 110), some (.int v1), some (.int 0)]) rfl (jlt rfl) rfl ?_
  refine jx_le (pl' := [some (.ref 110), some (.int v1), some (.int 0)]) (jle_v (jle_v (jle_v jle_nil))) ?_
  obtain ⟨x15, hz_x15, K⟩ := Option.bind_eq_some_iff.mp K
  refine kM_ask_l188_w  hd hz_x15 ?_
  refine jx_next (pc := 213) (pc' := 214) rfl rfl ?_
  refine jx_getl (pc := 214) rfl jko_110 ?_
  obtain rfl := Option.some.inj K
  exact jx_ret (pc := 217) rfl rfl HQ
noncomputable def fM_ask_j133 (v1 : Int32) (h : jH) : Option (Int64 × jH) :=
  (if ((jhI (jhI h 110 7 (h.1 110 5)) 110 8 ((jhI h 110 7 (h.1 110 5)).1 110 6)).1 110 5) = 0 then
  (if v1 < 2 then
  fM_ask_j173  v1 (-1) (jhI (jhI h 110 7 (h.1 110 5)) 110 8 ((jhI h 110 7 (h.1 110 5)).1 110 6))
  else
  fM_ask_j173  v1 0 (jhI (jhI h 110 7 (h.1 110 5)) 110 8 ((jhI h 110 7 (h.1 110 5)).1 110 6)))
  else
  some ((-1000000000000000), jhI (jhI h 110 7 (h.1 110 5)) 110 8 ((jhI h 110 7 (h.1 110 5)).1 110 6)))
theorem kM_ask_j133 {X : jX} {dd : Nat} {p d : Nat} {q : Nat → Nat} {Q : Option Value → jS → Prop} {v1 : Int32} {h : jH}  (hd : 9 ≤ (dd + 1)) {z : Int64 × jH} (K : fM_ask_j133 v1 h = some z) (HQ : Q (some (.long z.1)) (176, jRf p d q, z.2)) :
    jEx X (dd + 1) jc_302 133 [some (.ref 110), some (.int v1), none] [] (176, jRf p d q, h) Q := by
  unfold fM_ask_j133 at K
  refine jx_next (pc := 133) (pc' := 134) rfl rfl ?_
  refine jx_next (pc := 134) (pc' := 135) rfl rfl ?_
  refine jx_geti (pc := 135) rfl jko_110 ?_
  refine jx_puti (pc := 138) rfl jko_110 ?_
  refine jx_next (pc := 141) (pc' := 142) rfl rfl ?_
  refine jx_next (pc := 142) (pc' := 143) rfl rfl ?_
  refine jx_geti (pc := 143) rfl jko_110 ?_
  refine jx_puti (pc := 146) rfl jko_110 ?_
  refine jx_next (pc := 149) (pc' := 150) rfl rfl ?_
  refine jx_geti (pc := 150) rfl jko_110 ?_
  refine jx_ifeq (pc := 153) rfl (fun hc9 => ?_) (fun hc9 => ?_)
  · replace K := (if_pos hc9).symm.trans K
    refine jx_next (pc := 160) (pc' := 161) rfl rfl ?_
    refine jx_next (pc := 161) (pc' := 162) rfl rfl ?_
    refine jx_next (pc := 162) (pc' := 163) rfl rfl ?_
    refine jx_icge (pc := 163) rfl (fun hc10 => ?_) (fun hc10 => ?_)
    · replace K := (if_pos hc10).symm.trans K
      refine jx_next (pc := 166) (pc' := 169) rfl rfl ?_
      refine jx_next (pc := 169) (pc' := 173) rfl rfl ?_
      refine jx_le (pl' := [some (.ref 110), some (.int v1), none]) (jle_v (jle_v (jle_n jle_nil))) ?_
      exact kM_ask_j173  hd K HQ
    · replace K := (if_neg hc10).symm.trans K
      refine jx_next (pc := 172) (pc' := 173) rfl rfl ?_
      refine jx_le (pl' := [some (.ref 110), some (.int v1), none]) (jle_v (jle_v (jle_n jle_nil))) ?_
      exact kM_ask_j173  hd K HQ
  · replace K := (if_neg hc9).symm.trans K
    refine jx_next (pc := 156) (pc' := 159) rfl rfl ?_
    obtain rfl := Option.some.inj K
    exact jx_ret (pc := 159) rfl rfl HQ
noncomputable def fM_ask_j109 (v1 : Int32) (h : jH) : Option (Int64 × jH) :=
  (if (h.1 110 5) = 0 then
  (Option.bind (fM_look h) (fun (z7 : Int32 × jH) =>
  (if z7.1 = (-1) then
  fM_ask_j133  v1 z7.2
  else
  fM_ask_j133  v1 (fM_fail 1 (z7.2.1 110 2) z7.2))))
  else
  fM_ask_j133  v1 h)
theorem kM_ask_j109 {X : jX} {dd : Nat} {p d : Nat} {q : Nat → Nat} {Q : Option Value → jS → Prop} {v1 : Int32} {h : jH}  (hd : 9 ≤ (dd + 1)) {z : Int64 × jH} (K : fM_ask_j109 v1 h = some z) (HQ : Q (some (.long z.1)) (176, jRf p d q, z.2)) :
    jEx X (dd + 1) jc_302 109 [some (.ref 110), some (.int v1), none] [] (176, jRf p d q, h) Q := by
  unfold fM_ask_j109 at K
  refine jx_next (pc := 109) (pc' := 110) rfl rfl ?_
  refine jx_geti (pc := 110) rfl jko_110 ?_
  refine jx_ifne (pc := 113) rfl (fun hc6 => ?_) (fun hc6 => ?_)
  · replace K := (if_pos hc6).symm.trans K
    refine jx_next (pc := 116) (pc' := 117) rfl rfl ?_
    refine jx_callv (pc := 117) (o := 110) (rest := []) rfl ⟨by decide, by decide⟩ rfl jko_110 (Nat.le_of_ble_eq_true rfl) ?_
    obtain ⟨z7, hz_z7, K⟩ := Option.bind_eq_some_iff.mp K
    refine kM_look  (by omega) hz_z7 ?_
    refine jx_next (pc := 120) (pc' := 121) rfl rfl ?_
    refine jx_iceq (pc := 121) rfl (fun hc8 => ?_) (fun hc8 => ?_)
    · replace K := (if_pos hc8).symm.trans K
      refine jx_le (pl' := [some (.ref 110), some (.int v1), none]) (jle_v (jle_v (jle_n jle_nil))) ?_
      exact kM_ask_j133  hd K HQ
    · replace K := (if_neg hc8).symm.trans K
      refine jx_next (pc := 124) (pc' := 125) rfl rfl ?_
      refine jx_next (pc := 125) (pc' := 126) rfl rfl ?_
      refine jx_next (pc := 126) (pc' := 127) rfl rfl ?_
      refine jx_geti (pc := 127) rfl jko_110 ?_
      refine jx_callv (pc := 130) (o := 110) (rest := []) rfl ⟨by decide, by decide⟩ rfl jko_110 (Nat.le_of_ble_eq_true rfl) ?_
      refine kM_fail  (by omega) rfl ?_
      refine jx_le (pl' := [some (.ref 110), some (.int v1), none]) (jle_v (jle_v (jle_n jle_nil))) ?_
      exact kM_ask_j133  hd K HQ
  · replace K := (if_neg hc6).symm.trans K
    refine jx_le (pl' := [some (.ref 110), some (.int v1), none]) (jle_v (jle_v (jle_n jle_nil))) ?_
    exact kM_ask_j133  hd K HQ
noncomputable def fM_ask_j98 (v1 : Int32) (h : jH) : Option (Int64 × jH) :=
  (if (h.1 110 5) = 0 then
  (Option.bind (fM_qSums h) (fun (z18 : jH) =>
  fM_ask_j109  v1 z18))
  else
  fM_ask_j109  v1 h)
theorem kM_ask_j98 {X : jX} {dd : Nat} {p d : Nat} {q : Nat → Nat} {Q : Option Value → jS → Prop} {v1 : Int32} {h : jH}  (hd : 9 ≤ (dd + 1)) {z : Int64 × jH} (K : fM_ask_j98 v1 h = some z) (HQ : Q (some (.long z.1)) (176, jRf p d q, z.2)) :
    jEx X (dd + 1) jc_302 98 [some (.ref 110), some (.int v1), none] [] (176, jRf p d q, h) Q := by
  unfold fM_ask_j98 at K
  refine jx_next (pc := 98) (pc' := 99) rfl rfl ?_
  refine jx_geti (pc := 99) rfl jko_110 ?_
  refine jx_ifne (pc := 102) rfl (fun hc17 => ?_) (fun hc17 => ?_)
  · replace K := (if_pos hc17).symm.trans K
    refine jx_next (pc := 105) (pc' := 106) rfl rfl ?_
    refine jx_callv (pc := 106) (o := 110) (rest := []) rfl ⟨by decide, by decide⟩ rfl jko_110 (Nat.le_of_ble_eq_true rfl) ?_
    obtain ⟨z18, hz_z18, K⟩ := Option.bind_eq_some_iff.mp K
    refine kM_qSums  (by omega) hz_z18 ?_
    refine jx_le (pl' := [some (.ref 110), some (.int v1), none]) (jle_v (jle_v (jle_n jle_nil))) ?_
    exact kM_ask_j109  hd K HQ
  · replace K := (if_neg hc17).symm.trans K
    refine jx_le (pl' := [some (.ref 110), some (.int v1), none]) (jle_v (jle_v (jle_n jle_nil))) ?_
    exact kM_ask_j109  hd K HQ
/-- AndGuestModel.ask()J -/
noncomputable def fM_ask  (h : jH) : Option (Int64 × jH) :=
  (if (h.1 110 48) = 0 then
  some ((-1000000000000000), jhI h 110 1 0)
  else
  (Option.bind (fM_qKind (jhI (jhI (jhI (jhI (jhI (jhI (jhI (jhI (jhI (jhI (jhI h 110 3 (h.1 110 1)) 110 1 0) 110 2 0) 110 4 (-1)) 110 5 0) 110 6 (-1)) 110 49 0) 110 80 0) 110 82 0) 110 83 0) 110 84 0)) (fun (z2 : Int32 × jH) =>
  (if (z2.2.1 110 5) = 0 then
  (if z2.1 < 3 then
  (Option.bind (fM_qTest z2.2) (fun (z5 : jH) =>
  fM_ask_j109  z2.1 z5))
  else
  fM_ask_j98  z2.1 z2.2)
  else
  fM_ask_j98  z2.1 z2.2))))
theorem kM_ask {X : jX} {dd : Nat} {p d : Nat} {q : Nat → Nat} {Q : Option Value → jS → Prop}  {h : jH}  (hd : 9 ≤ dd) {z : Int64 × jH} (K : fM_ask  h = some z) (HQ : Q (some (.long z.1)) (176, jRf p d q, z.2)) :
    jCa X dd 302 [.ref 110] (176, jRf p d q, h) Q := by
  obtain ⟨dd, rfl⟩ : ∃ d9, dd = d9 + 1 := ⟨dd - 1, by omega⟩
  unfold fM_ask at K
  refine jCa_of (es := jc_302) (pl := [some (.ref 110), none, none]) (M := jm_302) rfl rfl rfl rfl ?_
  refine jx_next (pc := 0) (pc' := 1) rfl rfl ?_
  refine jx_getz (pc := 1) rfl jko_110 ?_
  refine jx_ifne (pc := 4) rfl (fun hc1 => ?_) (fun hc1 => ?_)
  · replace K := (if_pos hc1).symm.trans K
    refine jx_next (pc := 7) (pc' := 8) rfl rfl ?_
    refine jx_next (pc := 8) (pc' := 9) rfl rfl ?_
    refine jx_puti (pc := 9) rfl jko_110 ?_
    refine jx_next (pc := 12) (pc' := 15) rfl rfl ?_
    obtain rfl := Option.some.inj K
    exact jx_ret (pc := 15) rfl rfl HQ
  · replace K := (if_neg hc1).symm.trans K
    refine jx_next (pc := 16) (pc' := 17) rfl rfl ?_
    refine jx_next (pc := 17) (pc' := 18) rfl rfl ?_
    refine jx_geti (pc := 18) rfl jko_110 ?_
    refine jx_puti (pc := 21) rfl jko_110 ?_
    refine jx_next (pc := 24) (pc' := 25) rfl rfl ?_
    refine jx_next (pc := 25) (pc' := 26) rfl rfl ?_
    refine jx_puti (pc := 26) rfl jko_110 ?_
    refine jx_next (pc := 29) (pc' := 30) rfl rfl ?_
    refine jx_next (pc := 30) (pc' := 31) rfl rfl ?_
    refine jx_puti (pc := 31) rfl jko_110 ?_
    refine jx_next (pc := 34) (pc' := 35) rfl rfl ?_
    refine jx_next (pc := 35) (pc' := 36) rfl rfl ?_
    refine jx_puti (pc := 36) rfl jko_110 ?_
    refine jx_next (pc := 39) (pc' := 40) rfl rfl ?_
    refine jx_next (pc := 40) (pc' := 41) rfl rfl ?_
    refine jx_puti (pc := 41) rfl jko_110 ?_
    refine jx_next (pc := 44) (pc' := 45) rfl rfl ?_
    refine jx_next (pc := 45) (pc' := 46) rfl rfl ?_
    refine jx_puti (pc := 46) rfl jko_110 ?_
    refine jx_next (pc := 49) (pc' := 50) rfl rfl ?_
    refine jx_next (pc := 50) (pc' := 51) rfl rfl ?_
    refine jx_putz (pc := 51) rfl jko_110 (Or.inl rfl) ?_
    refine jx_next (pc := 54) (pc' := 55) rfl rfl ?_
    refine jx_next (pc := 55) (pc' := 56) rfl rfl ?_
    refine jx_puti (pc := 56) rfl jko_110 ?_
    refine jx_next (pc := 59) (pc' := 60) rfl rfl ?_
    refine jx_next (pc := 60) (pc' := 61) rfl rfl ?_
    refine jx_puti (pc := 61) rfl jko_110 ?_
    refine jx_next (pc := 64) (pc' := 65) rfl rfl ?_
    refine jx_next (pc := 65) (pc' := 66) rfl rfl ?_
    refine jx_puti (pc := 66) rfl jko_110 ?_
    refine jx_next (pc := 69) (pc' := 70) rfl rfl ?_
    refine jx_next (pc := 70) (pc' := 71) rfl rfl ?_
    refine jx_puti (pc := 71) rfl jko_110 ?_
    refine jx_next (pc := 74) (pc' := 75) rfl rfl ?_
    refine jx_callv (pc := 75) (o := 110) (rest := []) rfl ⟨by decide, by decide⟩ rfl jko_110 (Nat.le_of_ble_eq_true rfl) ?_
    obtain ⟨z2, hz_z2, K⟩ := Option.bind_eq_some_iff.mp K
    refine kM_qKind  (by omega) hz_z2 ?_
    refine jx_stin (pc := 78) (p2 := [some (.ref 110), some (.int z2.1), none]) rfl (jlt rfl) rfl ?_
    refine jx_next (pc := 79) (pc' := 80) rfl rfl ?_
    refine jx_geti (pc := 80) rfl jko_110 ?_
    refine jx_ifne (pc := 83) rfl (fun hc3 => ?_) (fun hc3 => ?_)
    · replace K := (if_pos hc3).symm.trans K
      refine jx_next (pc := 86) (pc' := 87) rfl rfl ?_
      refine jx_next (pc := 87) (pc' := 88) rfl rfl ?_
      refine jx_icge (pc := 88) rfl (fun hc4 => ?_) (fun hc4 => ?_)
      · replace K := (if_pos hc4).symm.trans K
        refine jx_next (pc := 91) (pc' := 92) rfl rfl ?_
        refine jx_callv (pc := 92) (o := 110) (rest := []) rfl ⟨by decide, by decide⟩ rfl jko_110 (Nat.le_of_ble_eq_true rfl) ?_
        obtain ⟨z5, hz_z5, K⟩ := Option.bind_eq_some_iff.mp K
        refine kM_qTest  (by omega) hz_z5 ?_
        refine jx_next (pc := 95) (pc' := 109) rfl rfl ?_
        refine jx_le (pl' := [some (.ref 110), some (.int z2.1), none]) (jle_v (jle_v (jle_n jle_nil))) ?_
        exact kM_ask_j109  hd K HQ
      · replace K := (if_neg hc4).symm.trans K
        refine jx_le (pl' := [some (.ref 110), some (.int z2.1), none]) (jle_v (jle_v (jle_n jle_nil))) ?_
        exact kM_ask_j98  hd K HQ
    · replace K := (if_neg hc3).symm.trans K
      refine jx_le (pl' := [some (.ref 110), some (.int z2.1), none]) (jle_v (jle_v (jle_n jle_nil))) ?_
      exact kM_ask_j98  hd K HQ
/-- AndGuestModel.writes(I)V -/
noncomputable def fM_writes (v1 : Int32) (h : jH) : Option jH :=
  (if jin (h.1 110 90) 29 then
  some (jhI (jhI h 176 (h.1 110 90).toNatClampNeg v1) 110 90 (((jhI h 176 (h.1 110 90).toNatClampNeg v1).1 110 90) + 1))
  else none)
theorem kM_writes {X : jX} {dd : Nat} {p d : Nat} {q : Nat → Nat} {Q : Option Value → jS → Prop} {v1 : Int32} {h : jH}  (hd : 0 ≤ dd) {z : jH} (K : fM_writes v1 h = some z) (HQ : Q none (176, jRf p d q, z)) :
    jCa X dd 314 [.ref 110, .int v1] (176, jRf p d q, h) Q := by
  unfold fM_writes at K
  refine jCa_of (es := jc_314) (pl := [some (.ref 110), some (.int v1)]) (M := jm_314) rfl rfl rfl rfl ?_
  refine jx_next (pc := 0) (pc' := 1) rfl rfl ?_
  refine jx_getr2 (pc := 1) rfl jko_110 jr_12_89 ?_
  refine jx_next (pc := 4) (pc' := 5) rfl rfl ?_
  refine jx_geti (pc := 5) rfl jko_110 ?_
  refine jx_next (pc := 8) (pc' := 9) rfl rfl ?_
  obtain ⟨hg1, K⟩ := jguard K
  refine jx_iast2 (pc := 9) rfl jko_176 jno_176 hg1 ?_
  refine jx_next (pc := 10) (pc' := 11) rfl rfl ?_
  refine jx_next (pc := 11) (pc' := 12) rfl rfl ?_
  refine jx_geti (pc := 12) rfl jko_110 ?_
  refine jx_next (pc := 15) (pc' := 16) rfl rfl ?_
  refine jx_next (pc := 16) (pc' := 17) rfl rfl ?_
  refine jx_puti (pc := 17) rfl jko_110 ?_
  obtain rfl := Option.some.inj K
  exact jx_ret (pc := 20) rfl rfl HQ
/-- AndGuestModel.writesTwo(I)V -/
noncomputable def fM_writesTwo (v1 : Int32) (h : jH) : Option jH :=
  (Option.bind (fM_writes (v1 / 256) h) (fun (z1 : jH) =>
  (Option.bind (fM_writes (v1 - v1 / 256 * 256) z1) (fun (z2 : jH) =>
  some z2))))
theorem kM_writesTwo {X : jX} {dd : Nat} {p d : Nat} {q : Nat → Nat} {Q : Option Value → jS → Prop} {v1 : Int32} {h : jH}  (hd : 1 ≤ dd) {z : jH} (K : fM_writesTwo v1 h = some z) (HQ : Q none (176, jRf p d q, z)) :
    jCa X dd 313 [.ref 110, .int v1] (176, jRf p d q, h) Q := by
  obtain ⟨dd, rfl⟩ : ∃ d9, dd = d9 + 1 := ⟨dd - 1, by omega⟩
  unfold fM_writesTwo at K
  refine jCa_of (es := jc_313) (pl := [some (.ref 110), some (.int v1)]) (M := jm_313) rfl rfl rfl rfl ?_
  refine jx_next (pc := 0) (pc' := 1) rfl rfl ?_
  refine jx_next (pc := 1) (pc' := 2) rfl rfl ?_
  refine jx_next (pc := 2) (pc' := 5) rfl rfl ?_
  refine jx_idiv (pc := 5) rfl (by decide) ?_
  refine jx_callv (pc := 6) (o := 110) (rest := []) rfl ⟨by decide, by decide⟩ rfl jko_110 (Nat.le_of_ble_eq_true rfl) ?_
  obtain ⟨z1, hz_z1, K⟩ := Option.bind_eq_some_iff.mp K
  refine kM_writes  (by omega) hz_z1 ?_
  refine jx_next (pc := 9) (pc' := 10) rfl rfl ?_
  refine jx_next (pc := 10) (pc' := 11) rfl rfl ?_
  refine jx_next (pc := 11) (pc' := 14) rfl rfl ?_
  refine jx_irem (pc := 14) rfl (by decide) ?_
  refine jx_callv (pc := 15) (o := 110) (rest := []) rfl ⟨by decide, by decide⟩ rfl jko_110 (Nat.le_of_ble_eq_true rfl) ?_
  obtain ⟨z2, hz_z2, K⟩ := Option.bind_eq_some_iff.mp K
  refine kM_writes  (by omega) hz_z2 ?_
  obtain rfl := Option.some.inj K
  exact jx_ret (pc := 18) rfl rfl HQ
noncomputable def fM_checked_l5_b (v0 : Nat) (v1 : Int32) (v2 : Int32) (v3 : Int32) (h : jH) : Option ((Int32 × Int32) ⊕ (Int32)) :=
  (if v3 < v1 then
  (if jin v3 (jsh v0).2 then
  some (.inl (((3 * v2) + (h.1 v0 v3.toNatClampNeg)) - ((3 * v2) + (h.1 v0 v3.toNatClampNeg)) / 251 * 251, v3 + 1))
  else none)
  else
  some (.inr v2))
noncomputable def fM_checked_l5 (v0 : Nat) (v1 : Int32) (h : jH) : (Int32 × Int32) → Option ((Int32 × Int32) ⊕ (Int32)) :=
  fun (s : Int32 × Int32) => fM_checked_l5_b v0 v1 s.1 s.2 h
theorem kM_checked_l5_b {X : jX} {dd : Nat} {p d : Nat} {q : Nat → Nat} {Q : Option Value → jS → Prop} {v0 : Nat} {v1 : Int32} {v2 : Int32} {v3 : Int32} {h : jH} (hv0 : jcl 176 v0 = 20) (hd : 0 ≤ dd) {z : (Int32 × Int32) ⊕ (Int32)} (K : fM_checked_l5_b v0 v1 v2 v3 h = some z) (HL : ∀ s : Int32 × Int32, z = .inl s → jEx X dd jc_315 5 [some (.ref v0), some (.int v1), some (.int s.1), some (.int s.2)] [] (176, jRf p d q, h) Q) (HE0 : ∀ x : Int32, z = .inr x → jEx X dd jc_315 28 [none, none, some (.int x), none] [] (176, jRf p d q, h) Q) :
    jEx X dd jc_315 5 [some (.ref v0), some (.int v1), some (.int v2), some (.int v3)] [] (176, jRf p d q, h) Q := by
  unfold fM_checked_l5_b at K
  refine jx_next (pc := 5) (pc' := 6) rfl rfl ?_
  refine jx_next (pc := 6) (pc' := 7) rfl rfl ?_
  refine jx_icge (pc := 7) rfl (fun hc1 => ?_) (fun hc1 => ?_)
  · replace K := (if_pos hc1).symm.trans K
    refine jx_next (pc := 10) (pc' := 11) rfl rfl ?_
    refine jx_next (pc := 11) (pc' := 12) rfl rfl ?_
    refine jx_next (pc := 12) (pc' := 13) rfl rfl ?_
    refine jx_next (pc := 13) (pc' := 14) rfl rfl ?_
    refine jx_next (pc := 14) (pc' := 15) rfl rfl ?_
    obtain ⟨hg2, K⟩ := jguard K
    refine jx_iald2 (pc := 15) rfl hv0 rfl hg2 ?_
    refine jx_next (pc := 16) (pc' := 17) rfl rfl ?_
    refine jx_next (pc := 17) (pc' := 20) rfl rfl ?_
    refine jx_irem (pc := 20) rfl (by decide) ?_
    refine jx_stin (pc := 21) (p2 := [some (.ref v0), some (.int v1), some (.int (((3 * v2) + (h.1 v0 v3.toNatClampNeg)) - ((3 * v2) + (h.1 v0 v3.toNatClampNeg)) / 251 * 251)), some (.int v3)]) rfl (jlt rfl) rfl ?_
    refine jx_inc (pc := 22) (x := v3) (p2 := [some (.ref v0), some (.int v1), some (.int (((3 * v2) + (h.1 v0 v3.toNatClampNeg)) - ((3 * v2) + (h.1 v0 v3.toNatClampNeg)) / 251 * 251)), some (.int (v3 + 1))]) rfl rfl (jlt rfl) rfl ?_
    refine jx_next (pc := 25) (pc' := 5) rfl rfl ?_
    obtain rfl := Option.some.inj K
    refine jx_le (pl' := [some (.ref v0), some (.int v1), some (.int (((3 * v2) + (h.1 v0 v3.toNatClampNeg)) - ((3 * v2) + (h.1 v0 v3.toNatClampNeg)) / 251 * 251)), some (.int (v3 + 1))]) (jle_v (jle_v (jle_v (jle_v jle_nil)))) ?_
    exact HL (((3 * v2) + (h.1 v0 v3.toNatClampNeg)) - ((3 * v2) + (h.1 v0 v3.toNatClampNeg)) / 251 * 251, v3 + 1) rfl
  · replace K := (if_neg hc1).symm.trans K
    obtain rfl := Option.some.inj K
    refine jx_le (pl' := [none, none, some (.int v2), none]) (jle_n (jle_n (jle_v (jle_n jle_nil)))) ?_
    exact HE0 _ rfl
theorem kM_checked_l5_w {X : jX} {dd : Nat} {p d : Nat} {q : Nat → Nat} {Q : Option Value → jS → Prop} {v0 : Nat} {v1 : Int32} {h : jH} (hv0 : jcl 176 v0 = 20) (hd : 0 ≤ dd) {s : Int32 × Int32} {x : Int32} (K : jlim (fM_checked_l5 v0 v1 h) s = some x) (HE : jEx X dd jc_315 28 [none, none, some (.int x), none] [] (176, jRf p d q, h) Q) :
    jEx X dd jc_315 5 [some (.ref v0), some (.int v1), some (.int s.1), some (.int s.2)] [] (176, jRf p d q, h) Q := by
  refine jlim_ok (G := fun s : Int32 × Int32 => jEx X dd jc_315 5 [some (.ref v0), some (.int v1), some (.int s.1), some (.int s.2)] [] (176, jRf p d q, h) Q) (GX := fun x : Int32 => jEx X dd jc_315 28 [none, none, some (.int x), none] [] (176, jRf p d q, h) Q) (fun s z hz HL HE => ?_) K HE
  exact kM_checked_l5_b hv0 hd hz HL HE
/-- AndGuestModel.checked([II)I -/
noncomputable def fM_checked (v0 : Nat) (v1 : Int32) (h : jH) : Option Int32 :=
  (Option.bind (jlim (fM_checked_l5  v0 v1 h) (67, 0)) (fun (x3 : Int32) =>
  some (x3 : Int32)))
theorem kM_checked {X : jX} {dd : Nat} {p d : Nat} {q : Nat → Nat} {Q : Option Value → jS → Prop} {v0 : Nat} {v1 : Int32} {h : jH} (hv0 : jcl 176 v0 = 20) (hd : 0 ≤ dd) {z : Int32} (K : fM_checked v0 v1 h = some z) (HQ : Q (some (.int z)) (176, jRf p d q, h)) :
    jCa X dd 315 [.ref v0, .int v1] (176, jRf p d q, h) Q := by
  unfold fM_checked at K
  refine jCa_of (es := jc_315) (pl := [some (.ref v0), some (.int v1), none, none]) (M := jm_315) rfl rfl rfl rfl ?_
  refine jx_next (pc := 0) (pc' := 2) rfl rfl ?_
  refine jx_stin (pc := 2) (p2 := [some (.ref v0), some (.int v1), some (.int 67), none]) rfl (jlt rfl) rfl ?_
  refine jx_next (pc := 3) (pc' := 4) rfl rfl ?_
  refine jx_stin (pc := 4) (p2 := [some (.ref v0), some (.int v1), some (.int 67), some (.int 0)]) rfl (jlt rfl) rfl ?_
  refine jx_le (pl' := [some (.ref v0), some (.int v1), some (.int 67), some (.int 0)]) (jle_v (jle_v (jle_v (jle_v jle_nil)))) ?_
  obtain ⟨x3, hz_x3, K⟩ := Option.bind_eq_some_iff.mp K
  refine kM_checked_l5_w hv0 hd hz_x3 ?_
  refine jx_next (pc := 28) (pc' := 29) rfl rfl ?_
  obtain rfl := Option.some.inj K
  exact jx_iret (pc := 29) rfl HQ
noncomputable def fM_image_l43_j78 (v1 : Int32) (s1 : Int32) (h : jH) : Option ((Int32 × jH) ⊕ (jH)) :=
  (Option.bind (fM_writesTwo s1 h) (fun (z12 : jH) =>
  some (.inl (v1 + 1, z12))))
theorem kM_image_l43_j78 {X : jX} {dd : Nat} {p d : Nat} {q : Nat → Nat} {Q : Option Value → jS → Prop} {v1 : Int32} {s1 : Int32} {h : jH}  (hd : 2 ≤ (dd + 1)) {z : (Int32 × jH) ⊕ (jH)} (K : fM_image_l43_j78 v1 s1 h = some z) (HL : ∀ s : Int32 × jH, z = .inl s → jEx X (dd + 1) jc_312 43 [some (.ref 110), some (.int s.1)] [] (176, jRf p d q, s.2) Q) (HE0 : ∀ x : jH, z = .inr x → jEx X (dd + 1) jc_312 87 [some (.ref 110), none] [] (176, jRf p d q, x) Q) :
    jEx X (dd + 1) jc_312 78 [some (.ref 110), some (.int v1)] [.int s1, .ref 110] (176, jRf p d q, h) Q := by
  unfold fM_image_l43_j78 at K
  refine jx_callv (pc := 78) (o := 110) (rest := []) rfl ⟨by decide, by decide⟩ rfl jko_110 (Nat.le_of_ble_eq_true rfl) ?_
  obtain ⟨z12, hz_z12, K⟩ := Option.bind_eq_some_iff.mp K
  refine kM_writesTwo  (by omega) hz_z12 ?_
  refine jx_inc (pc := 81) (x := v1) (p2 := [some (.ref 110), some (.int (v1 + 1))]) rfl rfl (jlt rfl) rfl ?_
  refine jx_next (pc := 84) (pc' := 43) rfl rfl ?_
  obtain rfl := Option.some.inj K
  refine jx_le (pl' := [some (.ref 110), some (.int (v1 + 1))]) (jle_v (jle_v jle_nil)) ?_
  exact HL (v1 + 1, z12) rfl
noncomputable def fM_image_l43_b (v1 : Int32) (h : jH) : Option ((Int32 × jH) ⊕ (jH)) :=
  (Option.bind (fM_guestMany h) (fun (z6 : Int32) =>
  (if v1 < z6 then
  (Option.bind (fM_howOf v1 h) (fun (z8 : Int32) =>
  (Option.bind (fM_writes z8 h) (fun (z9 : jH) =>
  (Option.bind (fM_isAsked v1 z9) (fun (z10 : Int32) =>
  (if z10 = 0 then
  fM_image_l43_j78  v1 0 z9
  else
  (Option.bind (fM_weeksOf v1 z9) (fun (z13 : Int32) =>
  fM_image_l43_j78  v1 z13 z9)))))))))
  else
  some (.inr h))))
noncomputable def fM_image_l43  : (Int32 × jH) → Option ((Int32 × jH) ⊕ (jH)) :=
  fun (s : Int32 × jH) => fM_image_l43_b s.1 s.2
theorem kM_image_l43_b {X : jX} {dd : Nat} {p d : Nat} {q : Nat → Nat} {Q : Option Value → jS → Prop} {v1 : Int32} {h : jH}  (hd : 2 ≤ (dd + 1)) {z : (Int32 × jH) ⊕ (jH)} (K : fM_image_l43_b v1 h = some z) (HL : ∀ s : Int32 × jH, z = .inl s → jEx X (dd + 1) jc_312 43 [some (.ref 110), some (.int s.1)] [] (176, jRf p d q, s.2) Q) (HE0 : ∀ x : jH, z = .inr x → jEx X (dd + 1) jc_312 87 [some (.ref 110), none] [] (176, jRf p d q, x) Q) :
    jEx X (dd + 1) jc_312 43 [some (.ref 110), some (.int v1)] [] (176, jRf p d q, h) Q := by
  unfold fM_image_l43_b at K
  refine jx_next (pc := 43) (pc' := 44) rfl rfl ?_
  refine jx_next (pc := 44) (pc' := 45) rfl rfl ?_
  refine jx_callv (pc := 45) (o := 110) (rest := [.int v1]) rfl ⟨by decide, by decide⟩ rfl jko_110 (Nat.le_of_ble_eq_true rfl) ?_
  obtain ⟨z6, hz_z6, K⟩ := Option.bind_eq_some_iff.mp K
  refine kM_guestMany  (by omega) hz_z6 ?_
  refine jx_icge (pc := 48) rfl (fun hc7 => ?_) (fun hc7 => ?_)
  · replace K := (if_pos hc7).symm.trans K
    refine jx_next (pc := 51) (pc' := 52) rfl rfl ?_
    refine jx_next (pc := 52) (pc' := 53) rfl rfl ?_
    refine jx_next (pc := 53) (pc' := 54) rfl rfl ?_
    refine jx_callv (pc := 54) (o := 110) (rest := [.ref 110]) rfl ⟨by decide, by decide⟩ rfl jko_110 (Nat.le_of_ble_eq_true rfl) ?_
    obtain ⟨z8, hz_z8, K⟩ := Option.bind_eq_some_iff.mp K
    refine kM_howOf  (by omega) hz_z8 ?_
    refine jx_callv (pc := 57) (o := 110) (rest := []) rfl ⟨by decide, by decide⟩ rfl jko_110 (Nat.le_of_ble_eq_true rfl) ?_
    obtain ⟨z9, hz_z9, K⟩ := Option.bind_eq_some_iff.mp K
    refine kM_writes  (by omega) hz_z9 ?_
    refine jx_next (pc := 60) (pc' := 61) rfl rfl ?_
    refine jx_next (pc := 61) (pc' := 62) rfl rfl ?_
    refine jx_next (pc := 62) (pc' := 63) rfl rfl ?_
    refine jx_callv (pc := 63) (o := 110) (rest := [.ref 110]) rfl ⟨by decide, by decide⟩ rfl jko_110 (Nat.le_of_ble_eq_true rfl) ?_
    obtain ⟨z10, hz_z10, K⟩ := Option.bind_eq_some_iff.mp K
    refine kM_isAsked  (by omega) hz_z10 ?_
    refine jx_ifeq (pc := 66) rfl (fun hc11 => ?_) (fun hc11 => ?_)
    · replace K := (if_pos hc11).symm.trans K
      refine jx_next (pc := 77) (pc' := 78) rfl rfl ?_
      refine jx_le (pl' := [some (.ref 110), some (.int v1)]) (jle_v (jle_v jle_nil)) ?_
      exact kM_image_l43_j78  hd K HL HE0
    · replace K := (if_neg hc11).symm.trans K
      refine jx_next (pc := 69) (pc' := 70) rfl rfl ?_
      refine jx_next (pc := 70) (pc' := 71) rfl rfl ?_
      refine jx_callv (pc := 71) (o := 110) (rest := [.ref 110]) rfl ⟨by decide, by decide⟩ rfl jko_110 (Nat.le_of_ble_eq_true rfl) ?_
      obtain ⟨z13, hz_z13, K⟩ := Option.bind_eq_some_iff.mp K
      refine kM_weeksOf  (by omega) hz_z13 ?_
      refine jx_next (pc := 74) (pc' := 78) rfl rfl ?_
      refine jx_le (pl' := [some (.ref 110), some (.int v1)]) (jle_v (jle_v jle_nil)) ?_
      exact kM_image_l43_j78  hd K HL HE0
  · replace K := (if_neg hc7).symm.trans K
    obtain rfl := Option.some.inj K
    refine jx_le (pl' := [some (.ref 110), none]) (jle_v (jle_n jle_nil)) ?_
    exact HE0 _ rfl
theorem kM_image_l43_w {X : jX} {dd : Nat} {p d : Nat} {q : Nat → Nat} {Q : Option Value → jS → Prop}   (hd : 2 ≤ (dd + 1)) {s : Int32 × jH} {x : jH} (K : jlim (fM_image_l43 ) s = some x) (HE : jEx X (dd + 1) jc_312 87 [some (.ref 110), none] [] (176, jRf p d q, x) Q) :
    jEx X (dd + 1) jc_312 43 [some (.ref 110), some (.int s.1)] [] (176, jRf p d q, s.2) Q := by
  refine jlim_ok (G := fun s : Int32 × jH => jEx X (dd + 1) jc_312 43 [some (.ref 110), some (.int s.1)] [] (176, jRf p d q, s.2) Q) (GX := fun x : jH => jEx X (dd + 1) jc_312 87 [some (.ref 110), none] [] (176, jRf p d q, x) Q) (fun s z hz HL HE => ?_) K HE
  exact kM_image_l43_b  hd hz HL HE
noncomputable def fM_image_j38 (s1 : Int32) (h : jH) : Option (Int32 × jH) :=
  (Option.bind (fM_writesTwo s1 h) (fun (z5 : jH) =>
  (Option.bind (jlim (fM_image_l43 ) (0, z5)) (fun (x14 : jH) =>
  (Option.bind (fM_checked 176 (x14.1 110 90) x14) (fun (z15 : Int32) =>
  (Option.bind (fM_writes z15 x14) (fun (z16 : jH) =>
  some (z16.1 110 90, z16)))))))))
theorem kM_image_j38 {X : jX} {dd : Nat} {p d : Nat} {q : Nat → Nat} {Q : Option Value → jS → Prop} {s1 : Int32} {h : jH}  (hd : 2 ≤ (dd + 1)) {z : Int32 × jH} (K : fM_image_j38 s1 h = some z) (HQ : Q (some (.int z.1)) (176, jRf p d q, z.2)) :
    jEx X (dd + 1) jc_312 38 [some (.ref 110), none] [.int s1, .ref 110] (176, jRf p d q, h) Q := by
  unfold fM_image_j38 at K
  refine jx_callv (pc := 38) (o := 110) (rest := []) rfl ⟨by decide, by decide⟩ rfl jko_110 (Nat.le_of_ble_eq_true rfl) ?_
  obtain ⟨z5, hz_z5, K⟩ := Option.bind_eq_some_iff.mp K
  refine kM_writesTwo  (by omega) hz_z5 ?_
  refine jx_next (pc := 41) (pc' := 42) rfl rfl ?_
  refine jx_stin (pc := 42) (p2 := [some (.ref 110), some (.int 0)]) rfl (jlt rfl) rfl ?_
  refine jx_le (pl' := [some (.ref 110), some (.int 0)]) (jle_v (jle_v jle_nil)) ?_
  obtain ⟨x14, hz_x14, K⟩ := Option.bind_eq_some_iff.mp K
  refine kM_image_l43_w  hd hz_x14 ?_
  refine jx_next (pc := 87) (pc' := 88) rfl rfl ?_
  refine jx_next (pc := 88) (pc' := 89) rfl rfl ?_
  refine jx_getr2 (pc := 89) rfl jko_110 jr_12_89 ?_
  refine jx_next (pc := 92) (pc' := 93) rfl rfl ?_
  refine jx_geti (pc := 93) rfl jko_110 ?_
  refine jx_calls (pc := 96) rfl (Nat.le_of_ble_eq_true rfl) (Nat.le_of_ble_eq_true rfl) ?_
  obtain ⟨z15, hz_z15, K⟩ := Option.bind_eq_some_iff.mp K
  refine kM_checked  jko_176 (by omega) hz_z15 ?_
  refine jx_callv (pc := 99) (o := 110) (rest := []) rfl ⟨by decide, by decide⟩ rfl jko_110 (Nat.le_of_ble_eq_true rfl) ?_
  obtain ⟨z16, hz_z16, K⟩ := Option.bind_eq_some_iff.mp K
  refine kM_writes  (by omega) hz_z16 ?_
  refine jx_next (pc := 102) (pc' := 103) rfl rfl ?_
  refine jx_geti (pc := 103) rfl jko_110 ?_
  obtain rfl := Option.some.inj K
  exact jx_iret (pc := 106) rfl HQ
/-- AndGuestModel.image()I -/
noncomputable def fM_image  (h : jH) : Option (Int32 × jH) :=
  (if jin 0 18 then
  (Option.bind (fM_writesTwo ((jhI h 110 90 0).1 148 (0 : Int32).toNatClampNeg) (jhI h 110 90 0)) (fun (z2 : jH) =>
  (if jin 1 18 then
  (if (z2.1 148 (1 : Int32).toNatClampNeg) = (-1) then
  fM_image_j38  65535 z2
  else
  (if jin 1 18 then
  fM_image_j38  (z2.1 148 (1 : Int32).toNatClampNeg) z2
  else none))
  else none)))
  else none)
theorem kM_image {X : jX} {dd : Nat} {p d : Nat} {q : Nat → Nat} {Q : Option Value → jS → Prop}  {h : jH}  (hd : 2 ≤ dd) {z : Int32 × jH} (K : fM_image  h = some z) (HQ : Q (some (.int z.1)) (176, jRf p d q, z.2)) :
    jCa X dd 312 [.ref 110] (176, jRf p d q, h) Q := by
  obtain ⟨dd, rfl⟩ : ∃ d9, dd = d9 + 1 := ⟨dd - 1, by omega⟩
  unfold fM_image at K
  refine jCa_of (es := jc_312) (pl := [some (.ref 110), none]) (M := jm_312) rfl rfl rfl rfl ?_
  refine jx_next (pc := 0) (pc' := 1) rfl rfl ?_
  refine jx_next (pc := 1) (pc' := 2) rfl rfl ?_
  refine jx_puti (pc := 2) rfl jko_110 ?_
  refine jx_next (pc := 5) (pc' := 6) rfl rfl ?_
  refine jx_next (pc := 6) (pc' := 7) rfl rfl ?_
  refine jx_getr2 (pc := 7) rfl jko_110 jr_12_50 ?_
  refine jx_next (pc := 10) (pc' := 11) rfl rfl ?_
  obtain ⟨hg1, K⟩ := jguard K
  refine jx_iald2 (pc := 11) rfl jko_148 jno_148 hg1 ?_
  refine jx_callv (pc := 12) (o := 110) (rest := []) rfl ⟨by decide, by decide⟩ rfl jko_110 (Nat.le_of_ble_eq_true rfl) ?_
  obtain ⟨z2, hz_z2, K⟩ := Option.bind_eq_some_iff.mp K
  refine kM_writesTwo  (by omega) hz_z2 ?_
  refine jx_next (pc := 15) (pc' := 16) rfl rfl ?_
  refine jx_next (pc := 16) (pc' := 17) rfl rfl ?_
  refine jx_getr2 (pc := 17) rfl jko_110 jr_12_50 ?_
  refine jx_next (pc := 20) (pc' := 21) rfl rfl ?_
  obtain ⟨hg3, K⟩ := jguard K
  refine jx_iald2 (pc := 21) rfl jko_148 jno_148 hg3 ?_
  refine jx_next (pc := 22) (pc' := 23) rfl rfl ?_
  refine jx_icne (pc := 23) rfl (fun hc4 => ?_) (fun hc4 => ?_)
  · replace K := (if_pos hc4).symm.trans K
    refine jx_next (pc := 26) (pc' := 29) rfl rfl ?_
    refine jx_next (pc := 29) (pc' := 38) rfl rfl ?_
    refine jx_le (pl' := [some (.ref 110), none]) (jle_v (jle_n jle_nil)) ?_
    exact kM_image_j38  hd K HQ
  · replace K := (if_neg hc4).symm.trans K
    refine jx_next (pc := 32) (pc' := 33) rfl rfl ?_
    refine jx_getr2 (pc := 33) rfl jko_110 jr_12_50 ?_
    refine jx_next (pc := 36) (pc' := 37) rfl rfl ?_
    obtain ⟨hg17, K⟩ := jguard K
    refine jx_iald2 (pc := 37) rfl jko_148 jno_148 hg17 ?_
    refine jx_le (pl' := [some (.ref 110), none]) (jle_v (jle_n jle_nil)) ?_
    exact kM_image_j38  hd K HQ
/-- AndGuestModel.octet(I)I -/
noncomputable def fM_octet (v1 : Int32) (h : jH) : Option Int32 :=
  (if v1 < 0 then
  some ((-1) : Int32)
  else
  (if v1 < (h.1 110 90) then
  (if jin v1 29 then
  some (h.1 176 v1.toNatClampNeg : Int32)
  else none)
  else
  some ((-1) : Int32)))
theorem kM_octet {X : jX} {dd : Nat} {p d : Nat} {q : Nat → Nat} {Q : Option Value → jS → Prop} {v1 : Int32} {h : jH}  (hd : 0 ≤ dd) {z : Int32} (K : fM_octet v1 h = some z) (HQ : Q (some (.int z)) (176, jRf p d q, h)) :
    jCa X dd 316 [.ref 110, .int v1] (176, jRf p d q, h) Q := by
  unfold fM_octet at K
  refine jCa_of (es := jc_316) (pl := [some (.ref 110), some (.int v1)]) (M := jm_316) rfl rfl rfl rfl ?_
  refine jx_next (pc := 0) (pc' := 1) rfl rfl ?_
  refine jx_iflt (pc := 1) rfl (fun hc1 => ?_) (fun hc1 => ?_)
  · replace K := (if_pos hc1).symm.trans K
    refine jx_next (pc := 21) (pc' := 22) rfl rfl ?_
    obtain rfl := Option.some.inj K
    exact jx_iret (pc := 22) rfl HQ
  · replace K := (if_neg hc1).symm.trans K
    refine jx_next (pc := 4) (pc' := 5) rfl rfl ?_
    refine jx_next (pc := 5) (pc' := 6) rfl rfl ?_
    refine jx_geti (pc := 6) rfl jko_110 ?_
    refine jx_icge (pc := 9) rfl (fun hc2 => ?_) (fun hc2 => ?_)
    · replace K := (if_pos hc2).symm.trans K
      refine jx_next (pc := 12) (pc' := 13) rfl rfl ?_
      refine jx_getr2 (pc := 13) rfl jko_110 jr_12_89 ?_
      refine jx_next (pc := 16) (pc' := 17) rfl rfl ?_
      obtain ⟨hg3, K⟩ := jguard K
      refine jx_iald2 (pc := 17) rfl jko_176 jno_176 hg3 ?_
      refine jx_next (pc := 18) (pc' := 22) rfl rfl ?_
      obtain rfl := Option.some.inj K
      exact jx_iret (pc := 22) rfl HQ
    · replace K := (if_neg hc2).symm.trans K
      refine jx_next (pc := 21) (pc' := 22) rfl rfl ?_
      obtain rfl := Option.some.inj K
      exact jx_iret (pc := 22) rfl HQ
/-- AndGuestModel.twoAt(I)I -/
noncomputable def fM_twoAt (v1 : Int32) (h : jH) : Option Int32 :=
  (if jin v1 1600 then
  (if jin (v1 + 1) 1600 then
  some ((256 * (h.1 111 v1.toNatClampNeg)) + (h.1 111 (v1 + 1).toNatClampNeg) : Int32)
  else none)
  else none)
theorem kM_twoAt {X : jX} {dd : Nat} {p d : Nat} {q : Nat → Nat} {Q : Option Value → jS → Prop} {v1 : Int32} {h : jH}  (hd : 0 ≤ dd) {z : Int32} (K : fM_twoAt v1 h = some z) (HQ : Q (some (.int z)) (176, jRf p d q, h)) :
    jCa X dd 319 [.ref 110, .int v1] (176, jRf p d q, h) Q := by
  unfold fM_twoAt at K
  refine jCa_of (es := jc_319) (pl := [some (.ref 110), some (.int v1)]) (M := jm_319) rfl rfl rfl rfl ?_
  refine jx_next (pc := 0) (pc' := 3) rfl rfl ?_
  refine jx_next (pc := 3) (pc' := 4) rfl rfl ?_
  refine jx_getr2 (pc := 4) rfl jko_110 jr_12_0 ?_
  refine jx_next (pc := 7) (pc' := 8) rfl rfl ?_
  obtain ⟨hg1, K⟩ := jguard K
  refine jx_iald2 (pc := 8) rfl jko_111 jno_111 hg1 ?_
  refine jx_next (pc := 9) (pc' := 10) rfl rfl ?_
  refine jx_next (pc := 10) (pc' := 11) rfl rfl ?_
  refine jx_getr2 (pc := 11) rfl jko_110 jr_12_0 ?_
  refine jx_next (pc := 14) (pc' := 15) rfl rfl ?_
  refine jx_next (pc := 15) (pc' := 16) rfl rfl ?_
  refine jx_next (pc := 16) (pc' := 17) rfl rfl ?_
  obtain ⟨hg2, K⟩ := jguard K
  refine jx_iald2 (pc := 17) rfl jko_111 jno_111 hg2 ?_
  refine jx_next (pc := 18) (pc' := 19) rfl rfl ?_
  obtain rfl := Option.some.inj K
  exact jx_iret (pc := 19) rfl HQ
noncomputable def fM_areGuestsTold_l6_j110 (v1 : Int32) (v3 : Int32) (s0 : Int32) (h : jH) : Option ((Int32 × Int32 × Int32) ⊕ ((Unit) ⊕ (Int32 × Int32))) :=
  some (.inl (v1, s0, v3 + 1))
theorem kM_areGuestsTold_l6_j110 {X : jX} {dd : Nat} {p d : Nat} {q : Nat → Nat} {Q : Option Value → jS → Prop} {v1 : Int32} {v3 : Int32} {s0 : Int32} {h : jH}  (hd : 1 ≤ (dd + 1)) {z : (Int32 × Int32 × Int32) ⊕ ((Unit) ⊕ (Int32 × Int32))} (K : fM_areGuestsTold_l6_j110 v1 v3 s0 h = some z) (HL : ∀ s : Int32 × Int32 × Int32, z = .inl s → jEx X (dd + 1) jc_320 6 [some (.ref 110), some (.int s.1), some (.int s.2.1), some (.int s.2.2), none, none] [] (176, jRf p d q, h) Q) (HE0 : ∀ x : Unit, z = .inr (.inl x) → jEx X (dd + 1) jc_320 74 [none, none, none, none, none, none] [] (176, jRf p d q, h) Q) (HE1 : ∀ x : Int32 × Int32, z = .inr (.inr x) → jEx X (dd + 1) jc_320 117 [some (.ref 110), some (.int x.1), some (.int x.2), none, none, none] [] (176, jRf p d q, h) Q) :
    jEx X (dd + 1) jc_320 110 [some (.ref 110), some (.int v1), none, some (.int v3), none, none] [.int s0] (176, jRf p d q, h) Q := by
  unfold fM_areGuestsTold_l6_j110 at K
  refine jx_stin (pc := 110) (p2 := [some (.ref 110), some (.int v1), some (.int s0), some (.int v3), none, none]) rfl (jlt rfl) rfl ?_
  refine jx_inc (pc := 111) (x := v3) (p2 := [some (.ref 110), some (.int v1), some (.int s0), some (.int (v3 + 1)), none, none]) rfl rfl (jlt rfl) rfl ?_
  refine jx_next (pc := 114) (pc' := 6) rfl rfl ?_
  obtain rfl := Option.some.inj K
  refine jx_le (pl' := [some (.ref 110), some (.int v1), some (.int s0), some (.int (v3 + 1)), none, none]) (jle_v (jle_v (jle_v (jle_v (jle_n (jle_n jle_nil)))))) ?_
  exact HL (v1, s0, v3 + 1) rfl
noncomputable def fM_areGuestsTold_l6_j105 (v1 : Int32) (v3 : Int32) (h : jH) : Option ((Int32 × Int32 × Int32) ⊕ ((Unit) ⊕ (Int32 × Int32))) :=
  fM_areGuestsTold_l6_j110  v1 v3 1 h
theorem kM_areGuestsTold_l6_j105 {X : jX} {dd : Nat} {p d : Nat} {q : Nat → Nat} {Q : Option Value → jS → Prop} {v1 : Int32} {v3 : Int32} {h : jH}  (hd : 1 ≤ (dd + 1)) {z : (Int32 × Int32 × Int32) ⊕ ((Unit) ⊕ (Int32 × Int32))} (K : fM_areGuestsTold_l6_j105 v1 v3 h = some z) (HL : ∀ s : Int32 × Int32 × Int32, z = .inl s → jEx X (dd + 1) jc_320 6 [some (.ref 110), some (.int s.1), some (.int s.2.1), some (.int s.2.2), none, none] [] (176, jRf p d q, h) Q) (HE0 : ∀ x : Unit, z = .inr (.inl x) → jEx X (dd + 1) jc_320 74 [none, none, none, none, none, none] [] (176, jRf p d q, h) Q) (HE1 : ∀ x : Int32 × Int32, z = .inr (.inr x) → jEx X (dd + 1) jc_320 117 [some (.ref 110), some (.int x.1), some (.int x.2), none, none, none] [] (176, jRf p d q, h) Q) :
    jEx X (dd + 1) jc_320 105 [some (.ref 110), some (.int v1), none, some (.int v3), none, none] [] (176, jRf p d q, h) Q := by
  unfold fM_areGuestsTold_l6_j105 at K
  refine jx_next (pc := 105) (pc' := 106) rfl rfl ?_
  refine jx_next (pc := 106) (pc' := 110) rfl rfl ?_
  refine jx_le (pl' := [some (.ref 110), some (.int v1), none, some (.int v3), none, none]) (jle_v (jle_v (jle_n (jle_v (jle_n (jle_n jle_nil)))))) ?_
  exact kM_areGuestsTold_l6_j110  hd K HL HE0 HE1
noncomputable def fM_areGuestsTold_l6_j109 (v1 : Int32) (v3 : Int32) (h : jH) : Option ((Int32 × Int32 × Int32) ⊕ ((Unit) ⊕ (Int32 × Int32))) :=
  fM_areGuestsTold_l6_j110  v1 v3 0 h
theorem kM_areGuestsTold_l6_j109 {X : jX} {dd : Nat} {p d : Nat} {q : Nat → Nat} {Q : Option Value → jS → Prop} {v1 : Int32} {v3 : Int32} {h : jH}  (hd : 1 ≤ (dd + 1)) {z : (Int32 × Int32 × Int32) ⊕ ((Unit) ⊕ (Int32 × Int32))} (K : fM_areGuestsTold_l6_j109 v1 v3 h = some z) (HL : ∀ s : Int32 × Int32 × Int32, z = .inl s → jEx X (dd + 1) jc_320 6 [some (.ref 110), some (.int s.1), some (.int s.2.1), some (.int s.2.2), none, none] [] (176, jRf p d q, h) Q) (HE0 : ∀ x : Unit, z = .inr (.inl x) → jEx X (dd + 1) jc_320 74 [none, none, none, none, none, none] [] (176, jRf p d q, h) Q) (HE1 : ∀ x : Int32 × Int32, z = .inr (.inr x) → jEx X (dd + 1) jc_320 117 [some (.ref 110), some (.int x.1), some (.int x.2), none, none, none] [] (176, jRf p d q, h) Q) :
    jEx X (dd + 1) jc_320 109 [some (.ref 110), some (.int v1), none, some (.int v3), none, none] [] (176, jRf p d q, h) Q := by
  unfold fM_areGuestsTold_l6_j109 at K
  refine jx_next (pc := 109) (pc' := 110) rfl rfl ?_
  refine jx_le (pl' := [some (.ref 110), some (.int v1), none, some (.int v3), none, none]) (jle_v (jle_v (jle_n (jle_v (jle_n (jle_n jle_nil)))))) ?_
  exact kM_areGuestsTold_l6_j110  hd K HL HE0 HE1
noncomputable def fM_areGuestsTold_l6_j90 (v2 : Int32) (v3 : Int32) (v4 : Int32) (v5 : Int32) (s0 : Int32) (h : jH) : Option ((Int32 × Int32 × Int32) ⊕ ((Unit) ⊕ (Int32 × Int32))) :=
  (if v2 = 0 then
  (if 0 < v4 then
  (if v5 = 0 then
  fM_areGuestsTold_l6_j105  s0 v3 h
  else
  fM_areGuestsTold_l6_j109  s0 v3 h)
  else
  fM_areGuestsTold_l6_j109  s0 v3 h)
  else
  fM_areGuestsTold_l6_j105  s0 v3 h)
theorem kM_areGuestsTold_l6_j90 {X : jX} {dd : Nat} {p d : Nat} {q : Nat → Nat} {Q : Option Value → jS → Prop} {v2 : Int32} {v3 : Int32} {v4 : Int32} {v5 : Int32} {s0 : Int32} {h : jH}  (hd : 1 ≤ (dd + 1)) {z : (Int32 × Int32 × Int32) ⊕ ((Unit) ⊕ (Int32 × Int32))} (K : fM_areGuestsTold_l6_j90 v2 v3 v4 v5 s0 h = some z) (HL : ∀ s : Int32 × Int32 × Int32, z = .inl s → jEx X (dd + 1) jc_320 6 [some (.ref 110), some (.int s.1), some (.int s.2.1), some (.int s.2.2), none, none] [] (176, jRf p d q, h) Q) (HE0 : ∀ x : Unit, z = .inr (.inl x) → jEx X (dd + 1) jc_320 74 [none, none, none, none, none, none] [] (176, jRf p d q, h) Q) (HE1 : ∀ x : Int32 × Int32, z = .inr (.inr x) → jEx X (dd + 1) jc_320 117 [some (.ref 110), some (.int x.1), some (.int x.2), none, none, none] [] (176, jRf p d q, h) Q) :
    jEx X (dd + 1) jc_320 90 [some (.ref 110), none, some (.int v2), some (.int v3), some (.int v4), some (.int v5)] [.int s0] (176, jRf p d q, h) Q := by
  unfold fM_areGuestsTold_l6_j90 at K
  refine jx_stin (pc := 90) (p2 := [some (.ref 110), some (.int s0), some (.int v2), some (.int v3), some (.int v4), some (.int v5)]) rfl (jlt rfl) rfl ?_
  refine jx_next (pc := 91) (pc' := 92) rfl rfl ?_
  refine jx_ifne (pc := 92) rfl (fun hc14 => ?_) (fun hc14 => ?_)
  · replace K := (if_pos hc14).symm.trans K
    refine jx_next (pc := 95) (pc' := 97) rfl rfl ?_
    refine jx_ifle (pc := 97) rfl (fun hc15 => ?_) (fun hc15 => ?_)
    · replace K := (if_pos hc15).symm.trans K
      refine jx_next (pc := 100) (pc' := 102) rfl rfl ?_
      refine jx_ifne (pc := 102) rfl (fun hc16 => ?_) (fun hc16 => ?_)
      · replace K := (if_pos hc16).symm.trans K
        refine jx_le (pl' := [some (.ref 110), some (.int s0), none, some (.int v3), none, none]) (jle_v (jle_v (jle_n (jle_v (jle_n (jle_n jle_nil)))))) ?_
        exact kM_areGuestsTold_l6_j105  hd K HL HE0 HE1
      · replace K := (if_neg hc16).symm.trans K
        refine jx_le (pl' := [some (.ref 110), some (.int s0), none, some (.int v3), none, none]) (jle_v (jle_v (jle_n (jle_v (jle_n (jle_n jle_nil)))))) ?_
        exact kM_areGuestsTold_l6_j109  hd K HL HE0 HE1
    · replace K := (if_neg hc15).symm.trans K
      refine jx_le (pl' := [some (.ref 110), some (.int s0), none, some (.int v3), none, none]) (jle_v (jle_v (jle_n (jle_v (jle_n (jle_n jle_nil)))))) ?_
      exact kM_areGuestsTold_l6_j109  hd K HL HE0 HE1
  · replace K := (if_neg hc14).symm.trans K
    refine jx_le (pl' := [some (.ref 110), some (.int s0), none, some (.int v3), none, none]) (jle_v (jle_v (jle_n (jle_v (jle_n (jle_n jle_nil)))))) ?_
    exact kM_areGuestsTold_l6_j105  hd K HL HE0 HE1
noncomputable def fM_areGuestsTold_l6_j85 (v2 : Int32) (v3 : Int32) (v4 : Int32) (v5 : Int32) (h : jH) : Option ((Int32 × Int32 × Int32) ⊕ ((Unit) ⊕ (Int32 × Int32))) :=
  fM_areGuestsTold_l6_j90  v2 v3 v4 v5 1 h
theorem kM_areGuestsTold_l6_j85 {X : jX} {dd : Nat} {p d : Nat} {q : Nat → Nat} {Q : Option Value → jS → Prop} {v2 : Int32} {v3 : Int32} {v4 : Int32} {v5 : Int32} {h : jH}  (hd : 1 ≤ (dd + 1)) {z : (Int32 × Int32 × Int32) ⊕ ((Unit) ⊕ (Int32 × Int32))} (K : fM_areGuestsTold_l6_j85 v2 v3 v4 v5 h = some z) (HL : ∀ s : Int32 × Int32 × Int32, z = .inl s → jEx X (dd + 1) jc_320 6 [some (.ref 110), some (.int s.1), some (.int s.2.1), some (.int s.2.2), none, none] [] (176, jRf p d q, h) Q) (HE0 : ∀ x : Unit, z = .inr (.inl x) → jEx X (dd + 1) jc_320 74 [none, none, none, none, none, none] [] (176, jRf p d q, h) Q) (HE1 : ∀ x : Int32 × Int32, z = .inr (.inr x) → jEx X (dd + 1) jc_320 117 [some (.ref 110), some (.int x.1), some (.int x.2), none, none, none] [] (176, jRf p d q, h) Q) :
    jEx X (dd + 1) jc_320 85 [some (.ref 110), none, some (.int v2), some (.int v3), some (.int v4), some (.int v5)] [] (176, jRf p d q, h) Q := by
  unfold fM_areGuestsTold_l6_j85 at K
  refine jx_next (pc := 85) (pc' := 86) rfl rfl ?_
  refine jx_next (pc := 86) (pc' := 90) rfl rfl ?_
  refine jx_le (pl' := [some (.ref 110), none, some (.int v2), some (.int v3), some (.int v4), some (.int v5)]) (jle_v (jle_n (jle_v (jle_v (jle_v (jle_v jle_nil)))))) ?_
  exact kM_areGuestsTold_l6_j90  hd K HL HE0 HE1
noncomputable def fM_areGuestsTold_l6_j76 (v1 : Int32) (v2 : Int32) (v3 : Int32) (v4 : Int32) (v5 : Int32) (h : jH) : Option ((Int32 × Int32 × Int32) ⊕ ((Unit) ⊕ (Int32 × Int32))) :=
  (if v1 = 0 then
  (if 0 < v4 then
  fM_areGuestsTold_l6_j85  v2 v3 v4 v5 h
  else
  fM_areGuestsTold_l6_j90  v2 v3 v4 v5 0 h)
  else
  fM_areGuestsTold_l6_j85  v2 v3 v4 v5 h)
theorem kM_areGuestsTold_l6_j76 {X : jX} {dd : Nat} {p d : Nat} {q : Nat → Nat} {Q : Option Value → jS → Prop} {v1 : Int32} {v2 : Int32} {v3 : Int32} {v4 : Int32} {v5 : Int32} {h : jH}  (hd : 1 ≤ (dd + 1)) {z : (Int32 × Int32 × Int32) ⊕ ((Unit) ⊕ (Int32 × Int32))} (K : fM_areGuestsTold_l6_j76 v1 v2 v3 v4 v5 h = some z) (HL : ∀ s : Int32 × Int32 × Int32, z = .inl s → jEx X (dd + 1) jc_320 6 [some (.ref 110), some (.int s.1), some (.int s.2.1), some (.int s.2.2), none, none] [] (176, jRf p d q, h) Q) (HE0 : ∀ x : Unit, z = .inr (.inl x) → jEx X (dd + 1) jc_320 74 [none, none, none, none, none, none] [] (176, jRf p d q, h) Q) (HE1 : ∀ x : Int32 × Int32, z = .inr (.inr x) → jEx X (dd + 1) jc_320 117 [some (.ref 110), some (.int x.1), some (.int x.2), none, none, none] [] (176, jRf p d q, h) Q) :
    jEx X (dd + 1) jc_320 76 [some (.ref 110), some (.int v1), some (.int v2), some (.int v3), some (.int v4), some (.int v5)] [] (176, jRf p d q, h) Q := by
  unfold fM_areGuestsTold_l6_j76 at K
  refine jx_next (pc := 76) (pc' := 77) rfl rfl ?_
  refine jx_ifne (pc := 77) rfl (fun hc12 => ?_) (fun hc12 => ?_)
  · replace K := (if_pos hc12).symm.trans K
    refine jx_next (pc := 80) (pc' := 82) rfl rfl ?_
    refine jx_ifle (pc := 82) rfl (fun hc13 => ?_) (fun hc13 => ?_)
    · replace K := (if_pos hc13).symm.trans K
      refine jx_le (pl' := [some (.ref 110), none, some (.int v2), some (.int v3), some (.int v4), some (.int v5)]) (jle_v (jle_n (jle_v (jle_v (jle_v (jle_v jle_nil)))))) ?_
      exact kM_areGuestsTold_l6_j85  hd K HL HE0 HE1
    · replace K := (if_neg hc13).symm.trans K
      refine jx_next (pc := 89) (pc' := 90) rfl rfl ?_
      refine jx_le (pl' := [some (.ref 110), none, some (.int v2), some (.int v3), some (.int v4), some (.int v5)]) (jle_v (jle_n (jle_v (jle_v (jle_v (jle_v jle_nil)))))) ?_
      exact kM_areGuestsTold_l6_j90  hd K HL HE0 HE1
  · replace K := (if_neg hc12).symm.trans K
    refine jx_le (pl' := [some (.ref 110), none, some (.int v2), some (.int v3), some (.int v4), some (.int v5)]) (jle_v (jle_n (jle_v (jle_v (jle_v (jle_v jle_nil)))))) ?_
    exact kM_areGuestsTold_l6_j85  hd K HL HE0 HE1
noncomputable def fM_areGuestsTold_l6_j53 (v1 : Int32) (v2 : Int32) (v3 : Int32) (v4 : Int32) (v5 : Int32) (h : jH) : Option ((Int32 × Int32 × Int32) ⊕ ((Unit) ⊕ (Int32 × Int32))) :=
  (if 0 < v4 then
  (Option.bind (fM_twoAt 2 h) (fun (z9 : Int32) =>
  (Option.bind (fM_twoAt 0 h) (fun (z10 : Int32) =>
  (if z10 < (z9 + v5) then
  some (.inr (.inl ()))
  else
  fM_areGuestsTold_l6_j76  v1 v2 v3 v4 v5 h)))))
  else
  fM_areGuestsTold_l6_j76  v1 v2 v3 v4 v5 h)
theorem kM_areGuestsTold_l6_j53 {X : jX} {dd : Nat} {p d : Nat} {q : Nat → Nat} {Q : Option Value → jS → Prop} {v1 : Int32} {v2 : Int32} {v3 : Int32} {v4 : Int32} {v5 : Int32} {h : jH}  (hd : 1 ≤ (dd + 1)) {z : (Int32 × Int32 × Int32) ⊕ ((Unit) ⊕ (Int32 × Int32))} (K : fM_areGuestsTold_l6_j53 v1 v2 v3 v4 v5 h = some z) (HL : ∀ s : Int32 × Int32 × Int32, z = .inl s → jEx X (dd + 1) jc_320 6 [some (.ref 110), some (.int s.1), some (.int s.2.1), some (.int s.2.2), none, none] [] (176, jRf p d q, h) Q) (HE0 : ∀ x : Unit, z = .inr (.inl x) → jEx X (dd + 1) jc_320 74 [none, none, none, none, none, none] [] (176, jRf p d q, h) Q) (HE1 : ∀ x : Int32 × Int32, z = .inr (.inr x) → jEx X (dd + 1) jc_320 117 [some (.ref 110), some (.int x.1), some (.int x.2), none, none, none] [] (176, jRf p d q, h) Q) :
    jEx X (dd + 1) jc_320 53 [some (.ref 110), some (.int v1), some (.int v2), some (.int v3), some (.int v4), some (.int v5)] [] (176, jRf p d q, h) Q := by
  unfold fM_areGuestsTold_l6_j53 at K
  refine jx_next (pc := 53) (pc' := 55) rfl rfl ?_
  refine jx_ifle (pc := 55) rfl (fun hc8 => ?_) (fun hc8 => ?_)
  · replace K := (if_pos hc8).symm.trans K
    refine jx_next (pc := 58) (pc' := 59) rfl rfl ?_
    refine jx_next (pc := 59) (pc' := 60) rfl rfl ?_
    refine jx_callv (pc := 60) (o := 110) (rest := []) rfl ⟨by decide, by decide⟩ rfl jko_110 (Nat.le_of_ble_eq_true rfl) ?_
    obtain ⟨z9, hz_z9, K⟩ := Option.bind_eq_some_iff.mp K
    refine kM_twoAt  (by omega) hz_z9 ?_
    refine jx_next (pc := 63) (pc' := 65) rfl rfl ?_
    refine jx_next (pc := 65) (pc' := 66) rfl rfl ?_
    refine jx_next (pc := 66) (pc' := 67) rfl rfl ?_
    refine jx_next (pc := 67) (pc' := 68) rfl rfl ?_
    refine jx_callv (pc := 68) (o := 110) (rest := [.int (z9 + v5)]) rfl ⟨by decide, by decide⟩ rfl jko_110 (Nat.le_of_ble_eq_true rfl) ?_
    obtain ⟨z10, hz_z10, K⟩ := Option.bind_eq_some_iff.mp K
    refine kM_twoAt  (by omega) hz_z10 ?_
    refine jx_icle (pc := 71) rfl (fun hc11 => ?_) (fun hc11 => ?_)
    · replace K := (if_pos hc11).symm.trans K
      obtain rfl := Option.some.inj K
      refine jx_le (pl' := [none, none, none, none, none, none]) (jle_n (jle_n (jle_n (jle_n (jle_n (jle_n jle_nil)))))) ?_
      exact HE0 _ rfl
    · replace K := (if_neg hc11).symm.trans K
      refine jx_le (pl' := [some (.ref 110), some (.int v1), some (.int v2), some (.int v3), some (.int v4), some (.int v5)]) (jle_v (jle_v (jle_v (jle_v (jle_v (jle_v jle_nil)))))) ?_
      exact kM_areGuestsTold_l6_j76  hd K HL HE0 HE1
  · replace K := (if_neg hc8).symm.trans K
    refine jx_le (pl' := [some (.ref 110), some (.int v1), some (.int v2), some (.int v3), some (.int v4), some (.int v5)]) (jle_v (jle_v (jle_v (jle_v (jle_v (jle_v jle_nil)))))) ?_
    exact kM_areGuestsTold_l6_j76  hd K HL HE0 HE1
noncomputable def fM_areGuestsTold_l6_b (v1 : Int32) (v2 : Int32) (v3 : Int32) (h : jH) : Option ((Int32 × Int32 × Int32) ⊕ ((Unit) ⊕ (Int32 × Int32))) :=
  (Option.bind (fM_guestMany h) (fun (z1 : Int32) =>
  (if v3 < z1 then
  (if jin (4 + (3 * v3)) 1600 then
  (Option.bind (fM_twoAt (5 + (3 * v3)) h) (fun (z4 : Int32) =>
  (if 4 < (h.1 111 (4 + (3 * v3)).toNatClampNeg) then
  some (.inr (.inl ()))
  else
  (if (h.1 111 (4 + (3 * v3)).toNatClampNeg) = 0 then
  (if 0 < z4 then
  some (.inr (.inl ()))
  else
  fM_areGuestsTold_l6_j53  v1 v2 v3 (h.1 111 (4 + (3 * v3)).toNatClampNeg) z4 h)
  else
  fM_areGuestsTold_l6_j53  v1 v2 v3 (h.1 111 (4 + (3 * v3)).toNatClampNeg) z4 h))))
  else none)
  else
  some (.inr (.inr (v1, v2))))))
noncomputable def fM_areGuestsTold_l6  (h : jH) : (Int32 × Int32 × Int32) → Option ((Int32 × Int32 × Int32) ⊕ ((Unit) ⊕ (Int32 × Int32))) :=
  fun (s : Int32 × Int32 × Int32) => fM_areGuestsTold_l6_b s.1 s.2.1 s.2.2 h
theorem kM_areGuestsTold_l6_b {X : jX} {dd : Nat} {p d : Nat} {q : Nat → Nat} {Q : Option Value → jS → Prop} {v1 : Int32} {v2 : Int32} {v3 : Int32} {h : jH}  (hd : 1 ≤ (dd + 1)) {z : (Int32 × Int32 × Int32) ⊕ ((Unit) ⊕ (Int32 × Int32))} (K : fM_areGuestsTold_l6_b v1 v2 v3 h = some z) (HL : ∀ s : Int32 × Int32 × Int32, z = .inl s → jEx X (dd + 1) jc_320 6 [some (.ref 110), some (.int s.1), some (.int s.2.1), some (.int s.2.2), none, none] [] (176, jRf p d q, h) Q) (HE0 : ∀ x : Unit, z = .inr (.inl x) → jEx X (dd + 1) jc_320 74 [none, none, none, none, none, none] [] (176, jRf p d q, h) Q) (HE1 : ∀ x : Int32 × Int32, z = .inr (.inr x) → jEx X (dd + 1) jc_320 117 [some (.ref 110), some (.int x.1), some (.int x.2), none, none, none] [] (176, jRf p d q, h) Q) :
    jEx X (dd + 1) jc_320 6 [some (.ref 110), some (.int v1), some (.int v2), some (.int v3), none, none] [] (176, jRf p d q, h) Q := by
  unfold fM_areGuestsTold_l6_b at K
  refine jx_next (pc := 6) (pc' := 7) rfl rfl ?_
  refine jx_next (pc := 7) (pc' := 8) rfl rfl ?_
  refine jx_callv (pc := 8) (o := 110) (rest := [.int v3]) rfl ⟨by decide, by decide⟩ rfl jko_110 (Nat.le_of_ble_eq_true rfl) ?_
  obtain ⟨z1, hz_z1, K⟩ := Option.bind_eq_some_iff.mp K
  refine kM_guestMany  (by omega) hz_z1 ?_
  refine jx_icge (pc := 11) rfl (fun hc2 => ?_) (fun hc2 => ?_)
  · replace K := (if_pos hc2).symm.trans K
    refine jx_next (pc := 14) (pc' := 15) rfl rfl ?_
    refine jx_getr2 (pc := 15) rfl jko_110 jr_12_0 ?_
    refine jx_next (pc := 18) (pc' := 19) rfl rfl ?_
    refine jx_next (pc := 19) (pc' := 20) rfl rfl ?_
    refine jx_next (pc := 20) (pc' := 21) rfl rfl ?_
    refine jx_next (pc := 21) (pc' := 22) rfl rfl ?_
    refine jx_next (pc := 22) (pc' := 23) rfl rfl ?_
    obtain ⟨hg3, K⟩ := jguard K
    refine jx_iald2 (pc := 23) rfl jko_111 jno_111 hg3 ?_
    refine jx_sti (pc := 24) (p2 := [some (.ref 110), some (.int v1), some (.int v2), some (.int v3), some (.int (h.1 111 (4 + (3 * v3)).toNatClampNeg)), none]) rfl (jlt rfl) rfl ?_
    refine jx_next (pc := 26) (pc' := 27) rfl rfl ?_
    refine jx_next (pc := 27) (pc' := 28) rfl rfl ?_
    refine jx_next (pc := 28) (pc' := 29) rfl rfl ?_
    refine jx_next (pc := 29) (pc' := 30) rfl rfl ?_
    refine jx_next (pc := 30) (pc' := 31) rfl rfl ?_
    refine jx_next (pc := 31) (pc' := 32) rfl rfl ?_
    refine jx_callv (pc := 32) (o := 110) (rest := []) rfl ⟨by decide, by decide⟩ rfl jko_110 (Nat.le_of_ble_eq_true rfl) ?_
    obtain ⟨z4, hz_z4, K⟩ := Option.bind_eq_some_iff.mp K
    refine kM_twoAt  (by omega) hz_z4 ?_
    refine jx_sti (pc := 35) (p2 := [some (.ref 110), some (.int v1), some (.int v2), some (.int v3), some (.int (h.1 111 (4 + (3 * v3)).toNatClampNeg)), some (.int z4)]) rfl (jlt rfl) rfl ?_
    refine jx_next (pc := 37) (pc' := 39) rfl rfl ?_
    refine jx_next (pc := 39) (pc' := 40) rfl rfl ?_
    refine jx_icgt (pc := 40) rfl (fun hc5 => ?_) (fun hc5 => ?_)
    · replace K := (if_pos hc5).symm.trans K
      obtain rfl := Option.some.inj K
      refine jx_le (pl' := [none, none, none, none, none, none]) (jle_n (jle_n (jle_n (jle_n (jle_n (jle_n jle_nil)))))) ?_
      exact HE0 _ rfl
    · replace K := (if_neg hc5).symm.trans K
      refine jx_next (pc := 43) (pc' := 45) rfl rfl ?_
      refine jx_ifne (pc := 45) rfl (fun hc6 => ?_) (fun hc6 => ?_)
      · replace K := (if_pos hc6).symm.trans K
        refine jx_next (pc := 48) (pc' := 50) rfl rfl ?_
        refine jx_ifgt (pc := 50) rfl (fun hc7 => ?_) (fun hc7 => ?_)
        · replace K := (if_pos hc7).symm.trans K
          obtain rfl := Option.some.inj K
          refine jx_le (pl' := [none, none, none, none, none, none]) (jle_n (jle_n (jle_n (jle_n (jle_n (jle_n jle_nil)))))) ?_
          exact HE0 _ rfl
        · replace K := (if_neg hc7).symm.trans K
          refine jx_le (pl' := [some (.ref 110), some (.int v1), some (.int v2), some (.int v3), some (.int (h.1 111 (4 + (3 * v3)).toNatClampNeg)), some (.int z4)]) (jle_v (jle_v (jle_v (jle_v (jle_v (jle_v jle_nil)))))) ?_
          exact kM_areGuestsTold_l6_j53  hd K HL HE0 HE1
      · replace K := (if_neg hc6).symm.trans K
        refine jx_le (pl' := [some (.ref 110), some (.int v1), some (.int v2), some (.int v3), some (.int (h.1 111 (4 + (3 * v3)).toNatClampNeg)), some (.int z4)]) (jle_v (jle_v (jle_v (jle_v (jle_v (jle_v jle_nil)))))) ?_
        exact kM_areGuestsTold_l6_j53  hd K HL HE0 HE1
  · replace K := (if_neg hc2).symm.trans K
    obtain rfl := Option.some.inj K
    refine jx_le (pl' := [some (.ref 110), some (.int v1), some (.int v2), none, none, none]) (jle_v (jle_v (jle_v (jle_n (jle_n (jle_n jle_nil)))))) ?_
    exact HE1 _ rfl
theorem kM_areGuestsTold_l6_w {X : jX} {dd : Nat} {p d : Nat} {q : Nat → Nat} {Q : Option Value → jS → Prop}  {h : jH}  (hd : 1 ≤ (dd + 1)) {s : Int32 × Int32 × Int32} {x : (Unit) ⊕ (Int32 × Int32)} (K : jlim (fM_areGuestsTold_l6  h) s = some x) (HE0 : ∀ x0 : Unit, x = .inl x0 → jEx X (dd + 1) jc_320 74 [none, none, none, none, none, none] [] (176, jRf p d q, h) Q) (HE1 : ∀ x0 : Int32 × Int32, x = .inr x0 → jEx X (dd + 1) jc_320 117 [some (.ref 110), some (.int x0.1), some (.int x0.2), none, none, none] [] (176, jRf p d q, h) Q) :
    jEx X (dd + 1) jc_320 6 [some (.ref 110), some (.int s.1), some (.int s.2.1), some (.int s.2.2), none, none] [] (176, jRf p d q, h) Q := by
  refine jlim_ok (G := fun s : Int32 × Int32 × Int32 => jEx X (dd + 1) jc_320 6 [some (.ref 110), some (.int s.1), some (.int s.2.1), some (.int s.2.2), none, none] [] (176, jRf p d q, h) Q) (GX := fun x : (Unit) ⊕ (Int32 × Int32) => (∀ x0 : Unit, x = .inl x0 → jEx X (dd + 1) jc_320 74 [none, none, none, none, none, none] [] (176, jRf p d q, h) Q) ∧ (∀ x0 : Int32 × Int32, x = .inr x0 → jEx X (dd + 1) jc_320 117 [some (.ref 110), some (.int x0.1), some (.int x0.2), none, none, none] [] (176, jRf p d q, h) Q)) (fun s z hz HL HE => ?_) K ⟨HE0, HE1⟩
  exact kM_areGuestsTold_l6_b  hd hz HL (fun x hx => (HE _ hx).1 x rfl) (fun x hx => (HE _ hx).2 x rfl)
/-- AndGuestModel.areGuestsTold()Z -/
noncomputable def fM_areGuestsTold  (h : jH) : Option Int32 :=
  (Option.bind (jlim (fM_areGuestsTold_l6  h) (0, 0, 0)) (fun (x17 : (Unit) ⊕ (Int32 × Int32)) => Sum.elim (fun (y17 : Unit) =>
  some (0 : Int32)) (fun (y17 : Int32 × Int32) =>
  (if y17.1 = 0 then
  (Option.bind (fM_twoAt 2 h) (fun (z19 : Int32) =>
  (if z19 = 65535 then
  some (1 : Int32)
  else
  some (0 : Int32))))
  else
  (if y17.2 = 0 ∨ y17.2 = 1 then some (y17.2 : Int32) else none))) x17))
theorem kM_areGuestsTold {X : jX} {dd : Nat} {p d : Nat} {q : Nat → Nat} {Q : Option Value → jS → Prop}  {h : jH}  (hd : 1 ≤ dd) {z : Int32} (K : fM_areGuestsTold  h = some z) (HQ : Q (some (.int z)) (176, jRf p d q, h)) :
    jCa X dd 320 [.ref 110] (176, jRf p d q, h) Q := by
  obtain ⟨dd, rfl⟩ : ∃ d9, dd = d9 + 1 := ⟨dd - 1, by omega⟩
  unfold fM_areGuestsTold at K
  refine jCa_of (es := jc_320) (pl := [some (.ref 110), none, none, none, none, none]) (M := jm_320) rfl rfl rfl rfl ?_
  refine jx_next (pc := 0) (pc' := 1) rfl rfl ?_
  refine jx_stin (pc := 1) (p2 := [some (.ref 110), some (.int 0), none, none, none, none]) rfl (jlt rfl) rfl ?_
  refine jx_next (pc := 2) (pc' := 3) rfl rfl ?_
  refine jx_stin (pc := 3) (p2 := [some (.ref 110), some (.int 0), some (.int 0), none, none, none]) rfl (jlt rfl) rfl ?_
  refine jx_next (pc := 4) (pc' := 5) rfl rfl ?_
  refine jx_stin (pc := 5) (p2 := [some (.ref 110), some (.int 0), some (.int 0), some (.int 0), none, none]) rfl (jlt rfl) rfl ?_
  refine jx_le (pl' := [some (.ref 110), some (.int 0), some (.int 0), some (.int 0), none, none]) (jle_v (jle_v (jle_v (jle_v (jle_n (jle_n jle_nil)))))) ?_
  obtain ⟨x17, hz_x17, K⟩ := Option.bind_eq_some_iff.mp K
  refine kM_areGuestsTold_l6_w  hd hz_x17 (fun y17 hx9 => ?_) (fun y17 hx9 => ?_)
  · subst hx9
    refine jx_next (pc := 74) (pc' := 75) rfl rfl ?_
    obtain rfl := Option.some.inj K
    exact jx_zret (pc := 75) rfl (Or.inl rfl) HQ
  · subst hx9
    refine jx_next (pc := 117) (pc' := 118) rfl rfl ?_
    refine jx_ifeq (pc := 118) rfl (fun hc18 => ?_) (fun hc18 => ?_)
    · replace K := (if_pos hc18).symm.trans K
      refine jx_next (pc := 125) (pc' := 126) rfl rfl ?_
      refine jx_next (pc := 126) (pc' := 127) rfl rfl ?_
      refine jx_callv (pc := 127) (o := 110) (rest := []) rfl ⟨by decide, by decide⟩ rfl jko_110 (Nat.le_of_ble_eq_true rfl) ?_
      obtain ⟨z19, hz_z19, K⟩ := Option.bind_eq_some_iff.mp K
      refine kM_twoAt  (by omega) hz_z19 ?_
      refine jx_next (pc := 130) (pc' := 133) rfl rfl ?_
      refine jx_icne (pc := 133) rfl (fun hc20 => ?_) (fun hc20 => ?_)
      · replace K := (if_pos hc20).symm.trans K
        refine jx_next (pc := 136) (pc' := 137) rfl rfl ?_
        refine jx_next (pc := 137) (pc' := 141) rfl rfl ?_
        obtain rfl := Option.some.inj K
        exact jx_zret (pc := 141) rfl (Or.inr rfl) HQ
      · replace K := (if_neg hc20).symm.trans K
        refine jx_next (pc := 140) (pc' := 141) rfl rfl ?_
        obtain rfl := Option.some.inj K
        exact jx_zret (pc := 141) rfl (Or.inl rfl) HQ
    · replace K := (if_neg hc18).symm.trans K
      refine jx_next (pc := 121) (pc' := 122) rfl rfl ?_
      refine jx_next (pc := 122) (pc' := 141) rfl rfl ?_
      obtain ⟨hg, K⟩ := jguard K
      obtain rfl := Option.some.inj K
      exact jx_zret (pc := 141) rfl hg HQ
