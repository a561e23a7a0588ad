noncomputable def fTp_checkOf_l5_b (R : jR) (o : Nat) (v1 : Int32) (v2 : Int32) (v3 : Int32) (h : jH) : Option ((Int32 × Int32) ⊕ (Int32)) :=
  (if v3 < v1 then
  (if v3 < (h.1 o 1) then
  (Option.bind (fTp_byteAt R o v3 h) (fun (z3 : Int32) =>
  some (.inl (((3 * v2) + z3) - ((3 * v2) + z3) / 251 * 251, v3 + 1))))
  else
  some (.inr v2))
  else
  some (.inr v2))
noncomputable def fTp_checkOf_l5 (R : jR) (o : Nat) (v1 : Int32) (h : jH) : (Int32 × Int32) → Option ((Int32 × Int32) ⊕ (Int32)) :=
  fun (s : Int32 × Int32) => fTp_checkOf_l5_b R o v1 s.1 s.2 h
theorem kTp_checkOf_l5_b {X : jX} {d : Nat} {R : jR} {Q : Option Value → jS → Prop} {o : Nat} {v1 : Int32} {v2 : Int32} {v3 : Int32} {h : jH} (hT : jTy R) (ho : jcl 176 o = 2) (hd : 1 ≤ (d + 1)) {z : (Int32 × Int32) ⊕ (Int32)} (K : fTp_checkOf_l5_b R o v1 v2 v3 h = some z) (HL : ∀ s : Int32 × Int32, z = .inl s → jEx X (d + 1) jc_181 5 [some (.ref o), some (.int v1), some (.int s.1), some (.int s.2)] [] (176, R, h) Q) (HE0 : ∀ x : Int32, z = .inr x → jEx X (d + 1) jc_181 38 [none, none, some (.int x), none] [] (176, R, h) Q) :
    jEx X (d + 1) jc_181 5 [some (.ref o), some (.int v1), some (.int v2), some (.int v3)] [] (176, R, h) Q := by
  unfold fTp_checkOf_l5_b at K
  refine jx_next (pc := 5) (pc' := 6) rfl rfl ?_
  refine jx_next (pc := 6) (pc' := 7) rfl rfl ?_
  refine jx_icge (pc := 7) rfl (fun hc1 => ?_) (fun hc1 => ?_)
  · replace K := (if_pos hc1).symm.trans K
    refine jx_next (pc := 10) (pc' := 11) rfl rfl ?_
    refine jx_next (pc := 11) (pc' := 12) rfl rfl ?_
    refine jx_geti (pc := 12) rfl ho ?_
    refine jx_icge (pc := 15) rfl (fun hc2 => ?_) (fun hc2 => ?_)
    · replace K := (if_pos hc2).symm.trans K
      refine jx_next (pc := 18) (pc' := 19) rfl rfl ?_
      refine jx_next (pc := 19) (pc' := 20) rfl rfl ?_
      refine jx_next (pc := 20) (pc' := 21) rfl rfl ?_
      refine jx_next (pc := 21) (pc' := 22) rfl rfl ?_
      refine jx_next (pc := 22) (pc' := 23) rfl rfl ?_
      refine jx_callv (pc := 23) (o := o) (rest := [.int (3 * v2)]) rfl ⟨by decide, by decide⟩ rfl ho (Nat.le_of_ble_eq_true rfl) ?_
      obtain ⟨z3, hz_z3, K⟩ := Option.bind_eq_some_iff.mp K
      refine kTp_byteAt hT ho (by omega) hz_z3 ?_
      refine jx_next (pc := 26) (pc' := 27) rfl rfl ?_
      refine jx_next (pc := 27) (pc' := 30) rfl rfl ?_
      refine jx_irem (pc := 30) rfl (by decide) ?_
      refine jx_stin (pc := 31) (p2 := [some (.ref o), some (.int v1), some (.int (((3 * v2) + z3) - ((3 * v2) + z3) / 251 * 251)), some (.int v3)]) rfl (jlt rfl) rfl ?_
      refine jx_inc (pc := 32) (x := v3) (p2 := [some (.ref o), some (.int v1), some (.int (((3 * v2) + z3) - ((3 * v2) + z3) / 251 * 251)), some (.int (v3 + 1))]) rfl rfl (jlt rfl) rfl ?_
      refine jx_next (pc := 35) (pc' := 5) rfl rfl ?_
      obtain rfl := Option.some.inj K
      refine jx_le (pl' := [some (.ref o), some (.int v1), some (.int (((3 * v2) + z3) - ((3 * v2) + z3) / 251 * 251)), some (.int (v3 + 1))]) (jle_v (jle_v (jle_v (jle_v jle_nil)))) ?_
      exact HL _ rfl
    · replace K := (if_neg hc2).symm.trans K
      obtain rfl := Option.some.inj K
      refine jx_le (pl' := [none, none, some (.int v2), none]) (jle_n (jle_n (jle_v (jle_n jle_nil)))) ?_
      exact HE0 _ rfl
  · replace K := (if_neg hc1).symm.trans K
    obtain rfl := Option.some.inj K
    refine jx_le (pl' := [none, none, some (.int v2), none]) (jle_n (jle_n (jle_v (jle_n jle_nil)))) ?_
    exact HE0 _ rfl
theorem kTp_checkOf_l5_w {X : jX} {d : Nat} {R : jR} {Q : Option Value → jS → Prop} {o : Nat} {v1 : Int32} {h : jH} (hT : jTy R) (ho : jcl 176 o = 2) (hd : 1 ≤ (d + 1)) {s : Int32 × Int32} {x : Int32} (K : jlim (fTp_checkOf_l5 R o v1 h) s = some x) (HE : jEx X (d + 1) jc_181 38 [none, none, some (.int x), none] [] (176, R, h) Q) :
    jEx X (d + 1) jc_181 5 [some (.ref o), some (.int v1), some (.int s.1), some (.int s.2)] [] (176, R, h) Q := by
  refine jlim_ok (G := fun s : Int32 × Int32 => jEx X (d + 1) jc_181 5 [some (.ref o), some (.int v1), some (.int s.1), some (.int s.2)] [] (176, R, h) Q) (GX := fun x : Int32 => jEx X (d + 1) jc_181 38 [none, none, some (.int x), none] [] (176, R, h) Q) (fun s z hz HL HE => ?_) K HE
  exact kTp_checkOf_l5_b hT ho hd hz HL HE
/-- AndGuest$Tape.checkOf(I)I -/
noncomputable def fTp_checkOf (R : jR) (o : Nat) (v1 : Int32) (h : jH) : Option Int32 :=
  (Option.bind (jlim (fTp_checkOf_l5 R o v1 h) (67, 0)) (fun (x4 : Int32) =>
  some (x4 : Int32)))
theorem kTp_checkOf {X : jX} {d : Nat} {R : jR} {Q : Option Value → jS → Prop} {o : Nat} {v1 : Int32} {h : jH} (hT : jTy R) (ho : jcl 176 o = 2) (hd : 1 ≤ d) {z : Int32} (K : fTp_checkOf R o v1 h = some z) (HQ : Q (some (.int z)) (176, R, h)) :
    jCa X d 181 [.ref o, .int v1] (176, R, h) Q := by
  obtain ⟨d, rfl⟩ : ∃ d9, d = d9 + 1 := ⟨d - 1, by omega⟩
  unfold fTp_checkOf at K
  refine jCa_of (es := jc_181) (pl := [some (.ref o), some (.int v1), none, none]) (M := jm_181) rfl rfl rfl rfl ?_
  refine jx_next (pc := 0) (pc' := 2) rfl rfl ?_
  refine jx_stin (pc := 2) (p2 := [some (.ref o), some (.int v1), some (.int 67), none]) rfl (jlt rfl) rfl ?_
  refine jx_next (pc := 3) (pc' := 4) rfl rfl ?_
  refine jx_stin (pc := 4) (p2 := [some (.ref o), some (.int v1), some (.int 67), some (.int 0)]) rfl (jlt rfl) rfl ?_
  refine jx_le (pl' := [some (.ref o), some (.int v1), some (.int 67), some (.int 0)]) (jle_v (jle_v (jle_v (jle_v jle_nil)))) ?_
  obtain ⟨x4, hz_x4, K⟩ := Option.bind_eq_some_iff.mp K
  refine kTp_checkOf_l5_w hT ho hd hz_x4 ?_
  refine jx_next (pc := 38) (pc' := 39) rfl rfl ?_
  obtain rfl := Option.some.inj K
  exact jx_iret (pc := 39) rfl HQ
noncomputable def fSd_writeImage_l31_b (R : jR) (o : Nat) (v1 : Nat) (v2 : Int32) (v3 : Int32) (h : jH) : Option ((Int32 × jH) ⊕ (jH)) :=
  (if v3 < v2 then
  (if v3 < 8 then
  (if jin v3 (jsh (R o 2)).2 then
  (Option.bind (fTp_put R v1 (h.1 (R o 2) v3.toNatClampNeg) h) (fun (z7 : jH) =>
  (if jin v3 (jsh (R o 3)).2 then
  (Option.bind (fTp_putPair R v1 (z7.1 (R o 3) v3.toNatClampNeg) z7) (fun (z9 : jH) =>
  some (.inl (v3 + 1, z9))))
  else none)))
  else none)
  else
  some (.inr h))
  else
  some (.inr h))
noncomputable def fSd_writeImage_l31 (R : jR) (o : Nat) (v1 : Nat) (v2 : Int32) : (Int32 × jH) → Option ((Int32 × jH) ⊕ (jH)) :=
  fun (s : Int32 × jH) => fSd_writeImage_l31_b R o v1 v2 s.1 s.2
theorem kSd_writeImage_l31_b {X : jX} {d : Nat} {R : jR} {Q : Option Value → jS → Prop} {o : Nat} {v1 : Nat} {v2 : Int32} {v3 : Int32} {h : jH} (hT : jTy R) (ho : jcl 176 o = 6) (hv1 : jcl 176 v1 = 2) (hd : 2 ≤ (d + 1)) {z : (Int32 × jH) ⊕ (jH)} (K : fSd_writeImage_l31_b R o v1 v2 v3 h = some z) (HL : ∀ s : Int32 × jH, z = .inl s → jEx X (d + 1) jc_180 31 [some (.ref o), some (.ref v1), some (.int v2), some (.int s.1)] [] (176, R, s.2) Q) (HE0 : ∀ x : jH, z = .inr x → jEx X (d + 1) jc_180 68 [none, some (.ref v1), none, none] [] (176, R, x) Q) :
    jEx X (d + 1) jc_180 31 [some (.ref o), some (.ref v1), some (.int v2), some (.int v3)] [] (176, R, h) Q := by
  unfold fSd_writeImage_l31_b at K
  refine jx_next (pc := 31) (pc' := 32) rfl rfl ?_
  refine jx_next (pc := 32) (pc' := 33) rfl rfl ?_
  refine jx_icge (pc := 33) rfl (fun hc4 => ?_) (fun hc4 => ?_)
  · replace K := (if_pos hc4).symm.trans K
    refine jx_next (pc := 36) (pc' := 37) rfl rfl ?_
    refine jx_next (pc := 37) (pc' := 39) rfl rfl ?_
    refine jx_icge (pc := 39) rfl (fun hc5 => ?_) (fun hc5 => ?_)
    · replace K := (if_pos hc5).symm.trans K
      refine jx_next (pc := 42) (pc' := 43) rfl rfl ?_
      refine jx_next (pc := 43) (pc' := 44) rfl rfl ?_
      refine jx_getr (pc := 44) rfl ho ?_
      refine jx_next (pc := 47) (pc' := 48) rfl rfl ?_
      obtain ⟨hg6, K⟩ := jguard K
      refine jx_iald (pc := 48) rfl (jtR hT ho (k := 2) (c := 20) rfl) hg6 ?_
      refine jx_callv (pc := 49) (o := v1) (rest := []) rfl ⟨by decide, by decide⟩ rfl hv1 (Nat.le_of_ble_eq_true rfl) ?_
      obtain ⟨z7, hz_z7, K⟩ := Option.bind_eq_some_iff.mp K
      refine kTp_put hT hv1 (by omega) hz_z7 ?_
      refine jx_next (pc := 52) (pc' := 53) rfl rfl ?_
      refine jx_next (pc := 53) (pc' := 54) rfl rfl ?_
      refine jx_getr (pc := 54) rfl ho ?_
      refine jx_next (pc := 57) (pc' := 58) rfl rfl ?_
      obtain ⟨hg8, K⟩ := jguard K
      refine jx_iald (pc := 58) rfl (jtR hT ho (k := 3) (c := 20) rfl) hg8 ?_
      refine jx_callv (pc := 59) (o := v1) (rest := []) rfl ⟨by decide, by decide⟩ rfl hv1 (Nat.le_of_ble_eq_true rfl) ?_
      obtain ⟨z9, hz_z9, K⟩ := Option.bind_eq_some_iff.mp K
      refine kTp_putPair hT hv1 (by omega) hz_z9 ?_
      refine jx_inc (pc := 62) (x := v3) (p2 := [some (.ref o), some (.ref v1), some (.int v2), some (.int (v3 + 1))]) rfl rfl (jlt rfl) rfl ?_
      refine jx_next (pc := 65) (pc' := 31) rfl rfl ?_
      obtain rfl := Option.some.inj K
      refine jx_le (pl' := [some (.ref o), some (.ref v1), some (.int v2), some (.int (v3 + 1))]) (jle_v (jle_v (jle_v (jle_v jle_nil)))) ?_
      exact HL _ rfl
    · replace K := (if_neg hc5).symm.trans K
      obtain rfl := Option.some.inj K
      refine jx_le (pl' := [none, some (.ref v1), none, none]) (jle_n (jle_v (jle_n (jle_n jle_nil)))) ?_
      exact HE0 _ rfl
  · replace K := (if_neg hc4).symm.trans K
    obtain rfl := Option.some.inj K
    refine jx_le (pl' := [none, some (.ref v1), none, none]) (jle_n (jle_v (jle_n (jle_n jle_nil)))) ?_
    exact HE0 _ rfl
theorem kSd_writeImage_l31_w {X : jX} {d : Nat} {R : jR} {Q : Option Value → jS → Prop} {o : Nat} {v1 : Nat} {v2 : Int32} (hT : jTy R) (ho : jcl 176 o = 6) (hv1 : jcl 176 v1 = 2) (hd : 2 ≤ (d + 1)) {s : Int32 × jH} {x : jH} (K : jlim (fSd_writeImage_l31 R o v1 v2) s = some x) (HE : jEx X (d + 1) jc_180 68 [none, some (.ref v1), none, none] [] (176, R, x) Q) :
    jEx X (d + 1) jc_180 31 [some (.ref o), some (.ref v1), some (.int v2), some (.int s.1)] [] (176, R, s.2) Q := by
  refine jlim_ok (G := fun s : Int32 × jH => jEx X (d + 1) jc_180 31 [some (.ref o), some (.ref v1), some (.int v2), some (.int s.1)] [] (176, R, s.2) Q) (GX := fun x : jH => jEx X (d + 1) jc_180 68 [none, some (.ref v1), none, none] [] (176, R, x) Q) (fun s z hz HL HE => ?_) K HE
  exact kSd_writeImage_l31_b hT ho hv1 hd hz HL HE
noncomputable def fSd_writeImage_j26 (R : jR) (o : Nat) (v1 : Nat) (v2 : Int32) (s0 : Nat) (s1 : Int32) (h : jH) : Option jH :=
  (Option.bind (fTp_putPair R s0 s1 h) (fun (z3 : jH) =>
  (Option.bind (jlim (fSd_writeImage_l31 R o v1 v2) (0, z3)) (fun (x10 : jH) =>
  (Option.bind (fTp_checkOf R v1 (fTp_size R v1 x10) x10) (fun (z11 : Int32) =>
  (Option.bind (fTp_put R v1 z11 x10) (fun (z12 : jH) =>
  some z12))))))))
theorem kSd_writeImage_j26 {X : jX} {d : Nat} {R : jR} {Q : Option Value → jS → Prop} {o : Nat} {v1 : Nat} {v2 : Int32} {s0 : Nat} {s1 : Int32} {h : jH} (hT : jTy R) (ho : jcl 176 o = 6) (hv1 : jcl 176 v1 = 2) (hs0 : jcl 176 s0 = 2) (hd : 2 ≤ (d + 1)) {z : jH} (K : fSd_writeImage_j26 R o v1 v2 s0 s1 h = some z) (HQ : Q none (176, R, z)) :
    jEx X (d + 1) jc_180 26 [some (.ref o), some (.ref v1), some (.int v2), none] [.int s1, .ref s0] (176, R, h) Q := by
  unfold fSd_writeImage_j26 at K
  refine jx_callv (pc := 26) (o := s0) (rest := []) rfl ⟨by decide, by decide⟩ rfl hs0 (Nat.le_of_ble_eq_true rfl) ?_
  obtain ⟨z3, hz_z3, K⟩ := Option.bind_eq_some_iff.mp K
  refine kTp_putPair hT hs0 (by omega) hz_z3 ?_
  refine jx_next (pc := 29) (pc' := 30) rfl rfl ?_
  refine jx_stin (pc := 30) (p2 := [some (.ref o), some (.ref v1), some (.int v2), some (.int 0)]) rfl (jlt rfl) rfl ?_
  refine jx_le (pl' := [some (.ref o), some (.ref v1), some (.int v2), some (.int 0)]) (jle_v (jle_v (jle_v (jle_v jle_nil)))) ?_
  obtain ⟨x10, hz_x10, K⟩ := Option.bind_eq_some_iff.mp K
  refine kSd_writeImage_l31_w hT ho hv1 hd hz_x10 ?_
  refine jx_next (pc := 68) (pc' := 69) rfl rfl ?_
  refine jx_next (pc := 69) (pc' := 70) rfl rfl ?_
  refine jx_next (pc := 70) (pc' := 71) rfl rfl ?_
  refine jx_callv (pc := 71) (o := v1) (rest := [.ref v1, .ref v1]) rfl ⟨by decide, by decide⟩ rfl hv1 (Nat.le_of_ble_eq_true rfl) ?_
  refine kTp_size hT hv1 (by omega) rfl ?_
  refine jx_callv (pc := 74) (o := v1) (rest := [.ref v1]) rfl ⟨by decide, by decide⟩ rfl hv1 (Nat.le_of_ble_eq_true rfl) ?_
  obtain ⟨z11, hz_z11, K⟩ := Option.bind_eq_some_iff.mp K
  refine kTp_checkOf hT hv1 (by omega) hz_z11 ?_
  refine jx_callv (pc := 77) (o := v1) (rest := []) rfl ⟨by decide, by decide⟩ rfl hv1 (Nat.le_of_ble_eq_true rfl) ?_
  obtain ⟨z12, hz_z12, K⟩ := Option.bind_eq_some_iff.mp K
  refine kTp_put hT hv1 (by omega) hz_z12 ?_
  obtain rfl := Option.some.inj K
  exact jx_ret (pc := 80) rfl rfl HQ
/-- AndGuest$Standing.writeImage(LAndGuest$Tape;I)V -/
noncomputable def fSd_writeImage (R : jR) (o : Nat) (v1 : Nat) (v2 : Int32) (h : jH) : Option jH :=
  (Option.bind (fTp_putPair R v1 (h.1 o 0) h) (fun (z1 : jH) =>
  (if (z1.1 o 1) = (-1) then
  fSd_writeImage_j26 R o v1 v2 v1 65535 z1
  else
  fSd_writeImage_j26 R o v1 v2 v1 (z1.1 o 1) z1)))
theorem kSd_writeImage {X : jX} {d : Nat} {R : jR} {Q : Option Value → jS → Prop} {o : Nat} {v1 : Nat} {v2 : Int32} {h : jH} (hT : jTy R) (ho : jcl 176 o = 6) (hv1 : jcl 176 v1 = 2) (hd : 2 ≤ d) {z : jH} (K : fSd_writeImage R o v1 v2 h = some z) (HQ : Q none (176, R, z)) :
    jCa X d 180 [.ref o, .ref v1, .int v2] (176, R, h) Q := by
  obtain ⟨d, rfl⟩ : ∃ d9, d = d9 + 1 := ⟨d - 1, by omega⟩
  unfold fSd_writeImage at K
  refine jCa_of (es := jc_180) (pl := [some (.ref o), some (.ref v1), some (.int v2), none]) (M := jm_180) rfl rfl rfl rfl ?_
  refine jx_next (pc := 0) (pc' := 1) rfl rfl ?_
  refine jx_next (pc := 1) (pc' := 2) rfl rfl ?_
  refine jx_geti (pc := 2) rfl ho ?_
  refine jx_callv (pc := 5) (o := v1) (rest := []) rfl ⟨by decide, by decide⟩ rfl hv1 (Nat.le_of_ble_eq_true rfl) ?_
  obtain ⟨z1, hz_z1, K⟩ := Option.bind_eq_some_iff.mp K
  refine kTp_putPair hT hv1 (by omega) hz_z1 ?_
  refine jx_next (pc := 8) (pc' := 9) rfl rfl ?_
  refine jx_next (pc := 9) (pc' := 10) rfl rfl ?_
  refine jx_geti (pc := 10) rfl ho ?_
  refine jx_next (pc := 13) (pc' := 14) rfl rfl ?_
  refine jx_icne (pc := 14) rfl (fun hc2 => ?_) (fun hc2 => ?_)
  · replace K := (if_pos hc2).symm.trans K
    refine jx_next (pc := 17) (pc' := 19) rfl rfl ?_
    refine jx_next (pc := 19) (pc' := 26) rfl rfl ?_
    refine jx_le (pl' := [some (.ref o), some (.ref v1), some (.int v2), none]) (jle_v (jle_v (jle_v (jle_n jle_nil)))) ?_
    exact kSd_writeImage_j26 hT ho hv1 hv1 hd K HQ
  · replace K := (if_neg hc2).symm.trans K
    refine jx_next (pc := 22) (pc' := 23) rfl rfl ?_
    refine jx_geti (pc := 23) rfl ho ?_
    refine jx_le (pl' := [some (.ref o), some (.ref v1), some (.int v2), none]) (jle_v (jle_v (jle_v (jle_n jle_nil)))) ?_
    exact kSd_writeImage_j26 hT ho hv1 hv1 hd K HQ
/-- AndGuest.image()I -/
noncomputable def fA_image (R : jR) (o : Nat) (h : jH) : Option (Int32 × jH) :=
  (Option.bind (fSd_writeImage R (R o 5) (R o 1) ((fTp_cut R (R o 1) 0 h).1 (fPy_plan R (R o 8) (fTp_cut R (R o 1) 0 h)) 0) (fTp_cut R (R o 1) 0 h)) (fun (z2 : jH) =>
  some (fTp_size R (R o 1) z2, z2)))
theorem kA_image {X : jX} {d : Nat} {R : jR} {Q : Option Value → jS → Prop} {o : Nat} {h : jH} (hT : jTy R) (ho : jcl 176 o = 1) (hd : 3 ≤ d) {z : Int32 × jH} (K : fA_image R o h = some z) (HQ : Q (some (.int z.1)) (176, R, z.2)) :
    jCa X d 179 [.ref o] (176, R, h) Q := by
  obtain ⟨d, rfl⟩ : ∃ d9, d = d9 + 1 := ⟨d - 1, by omega⟩
  unfold fA_image at K
  refine jCa_of (es := jc_179) (pl := [some (.ref o)]) (M := jm_179) rfl rfl rfl rfl ?_
  refine jx_next (pc := 0) (pc' := 1) rfl rfl ?_
  refine jx_getr (pc := 1) rfl ho ?_
  refine jx_next (pc := 4) (pc' := 5) rfl rfl ?_
  refine jx_callv (pc := 5) (o := (R o 1)) (rest := []) rfl ⟨by decide, by decide⟩ rfl (jtR hT ho (k := 1) (c := 2) rfl) (Nat.le_of_ble_eq_true rfl) ?_
  refine kTp_cut hT (jtR hT ho (k := 1) (c := 2) rfl) (by omega) rfl ?_
  refine jx_next (pc := 8) (pc' := 9) rfl rfl ?_
  refine jx_getr (pc := 9) rfl ho ?_
  refine jx_next (pc := 12) (pc' := 13) rfl rfl ?_
  refine jx_getr (pc := 13) rfl ho ?_
  refine jx_next (pc := 16) (pc' := 17) rfl rfl ?_
  refine jx_getr (pc := 17) rfl ho ?_
  refine jx_callv (pc := 20) (o := (R o 8)) (rest := [.ref (R o 1), .ref (R o 5)]) rfl ⟨by decide, by decide⟩ rfl (jtR hT ho (k := 8) (c := 8) rfl) (Nat.le_of_ble_eq_true rfl) ?_
  refine kPy_plan hT (jtR hT ho (k := 8) (c := 8) rfl) (by omega) rfl ?_
  refine jx_geti (pc := 23) rfl (kPy_plan_c hT (jtR hT ho (k := 8) (c := 8) rfl)) ?_
  refine jx_callv (pc := 26) (o := (R o 5)) (rest := []) rfl ⟨by decide, by decide⟩ rfl (jtR hT ho (k := 5) (c := 6) rfl) (Nat.le_of_ble_eq_true rfl) ?_
  obtain ⟨z2, hz_z2, K⟩ := Option.bind_eq_some_iff.mp K
  refine kSd_writeImage hT (jtR hT ho (k := 5) (c := 6) rfl) (jtR hT ho (k := 1) (c := 2) rfl) (by omega) hz_z2 ?_
  refine jx_next (pc := 29) (pc' := 30) rfl rfl ?_
  refine jx_getr (pc := 30) rfl ho ?_
  refine jx_callv (pc := 33) (o := (R o 1)) (rest := []) rfl ⟨by decide, by decide⟩ rfl (jtR hT ho (k := 1) (c := 2) rfl) (Nat.le_of_ble_eq_true rfl) ?_
  refine kTp_size hT (jtR hT ho (k := 1) (c := 2) rfl) (by omega) rfl ?_
  obtain rfl := Option.some.inj K
  exact jx_iret (pc := 36) rfl HQ
/-- AndGuest.octet(I)I -/
noncomputable def fA_octet (R : jR) (o : Nat) (v1 : Int32) (h : jH) : Option Int32 :=
  (Option.bind (fTp_byteAt R (R o 1) v1 h) (fun (z1 : Int32) =>
  some (z1 : Int32)))
theorem kA_octet {X : jX} {d : Nat} {R : jR} {Q : Option Value → jS → Prop} {o : Nat} {v1 : Int32} {h : jH} (hT : jTy R) (ho : jcl 176 o = 1) (hd : 1 ≤ d) {z : Int32} (K : fA_octet R o v1 h = some z) (HQ : Q (some (.int z)) (176, R, h)) :
    jCa X d 182 [.ref o, .int v1] (176, R, h) Q := by
  obtain ⟨d, rfl⟩ : ∃ d9, d = d9 + 1 := ⟨d - 1, by omega⟩
  unfold fA_octet at K
  refine jCa_of (es := jc_182) (pl := [some (.ref o), some (.int v1)]) (M := jm_182) rfl rfl rfl rfl ?_
  refine jx_next (pc := 0) (pc' := 1) rfl rfl ?_
  refine jx_getr (pc := 1) rfl ho ?_
  refine jx_next (pc := 4) (pc' := 5) rfl rfl ?_
  refine jx_callv (pc := 5) (o := (R o 1)) (rest := []) rfl ⟨by decide, by decide⟩ rfl (jtR hT ho (k := 1) (c := 2) rfl) (Nat.le_of_ble_eq_true rfl) ?_
  obtain ⟨z1, hz_z1, K⟩ := Option.bind_eq_some_iff.mp K
  refine kTp_byteAt hT (jtR hT ho (k := 1) (c := 2) rfl) (by omega) hz_z1 ?_
  obtain rfl := Option.some.inj K
  exact jx_iret (pc := 8) rfl HQ
/-- AndGuest$Tape.pairAt(I)I -/
noncomputable def fTp_pairAt (R : jR) (o : Nat) (v1 : Int32) (h : jH) : Option Int32 :=
  (Option.bind (fTp_byteAt R o v1 h) (fun (z1 : Int32) =>
  (Option.bind (fTp_byteAt R o (v1 + 1) h) (fun (z2 : Int32) =>
  some ((z1 * 256) + z2 : Int32)))))
theorem kTp_pairAt {X : jX} {d : Nat} {R : jR} {Q : Option Value → jS → Prop} {o : Nat} {v1 : Int32} {h : jH} (hT : jTy R) (ho : jcl 176 o = 2) (hd : 1 ≤ d) {z : Int32} (K : fTp_pairAt R o v1 h = some z) (HQ : Q (some (.int z)) (176, R, h)) :
    jCa X d 185 [.ref o, .int v1] (176, R, h) Q := by
  obtain ⟨d, rfl⟩ : ∃ d9, d = d9 + 1 := ⟨d - 1, by omega⟩
  unfold fTp_pairAt at K
  refine jCa_of (es := jc_185) (pl := [some (.ref o), some (.int v1)]) (M := jm_185) rfl rfl rfl rfl ?_
  refine jx_next (pc := 0) (pc' := 1) rfl rfl ?_
  refine jx_next (pc := 1) (pc' := 2) rfl rfl ?_
  refine jx_callv (pc := 2) (o := o) (rest := []) rfl ⟨by decide, by decide⟩ rfl ho (Nat.le_of_ble_eq_true rfl) ?_
  obtain ⟨z1, hz_z1, K⟩ := Option.bind_eq_some_iff.mp K
  refine kTp_byteAt hT ho (by omega) hz_z1 ?_
  refine jx_next (pc := 5) (pc' := 8) rfl rfl ?_
  refine jx_next (pc := 8) (pc' := 9) rfl rfl ?_
  refine jx_next (pc := 9) (pc' := 10) rfl rfl ?_
  refine jx_next (pc := 10) (pc' := 11) rfl rfl ?_
  refine jx_next (pc := 11) (pc' := 12) rfl rfl ?_
  refine jx_next (pc := 12) (pc' := 13) rfl rfl ?_
  refine jx_callv (pc := 13) (o := o) (rest := [.int (z1 * 256)]) rfl ⟨by decide, by decide⟩ rfl ho (Nat.le_of_ble_eq_true rfl) ?_
  obtain ⟨z2, hz_z2, K⟩ := Option.bind_eq_some_iff.mp K
  refine kTp_byteAt hT ho (by omega) hz_z2 ?_
  refine jx_next (pc := 16) (pc' := 17) rfl rfl ?_
  obtain rfl := Option.some.inj K
  exact jx_iret (pc := 17) rfl HQ
noncomputable def fSd_isSound_l67_j133 (R : jR) (o : Nat) (v1 : Int32) (v2 : Int32) (h : jH) : Option ((Int32 × Int32) ⊕ ((Unit) ⊕ (Int32))) :=
  some (.inl (v1, v2 + 1))
theorem kSd_isSound_l67_j133 {X : jX} {d : Nat} {R : jR} {Q : Option Value → jS → Prop} {o : Nat} {v1 : Int32} {v2 : Int32} {h : jH} (hT : jTy R) (ho : jcl 176 o = 6) (hd : 1 ≤ (d + 1)) {z : (Int32 × Int32) ⊕ ((Unit) ⊕ (Int32))} (K : fSd_isSound_l67_j133 R o v1 v2 h = some z) (HL : ∀ s : Int32 × Int32, z = .inl s → jEx X (d + 1) jc_186 67 [some (.ref o), some (.int s.1), some (.int s.2), none] [] (176, R, h) Q) (HE0 : ∀ x : Unit, z = .inr (.inl x) → jEx X (d + 1) jc_186 111 [none, none, none, none] [] (176, R, h) Q) (HE1 : ∀ x : Int32, z = .inr (.inr x) → jEx X (d + 1) jc_186 139 [none, some (.int x), none, none] [] (176, R, h) Q) :
    jEx X (d + 1) jc_186 133 [some (.ref o), some (.int v1), some (.int v2), none] [] (176, R, h) Q := by
  unfold fSd_isSound_l67_j133 at K
  refine jx_inc (pc := 133) (x := v2) (p2 := [some (.ref o), some (.int v1), some (.int (v2 + 1)), none]) rfl rfl (jlt rfl) rfl ?_
  refine jx_next (pc := 136) (pc' := 67) rfl rfl ?_
  obtain rfl := Option.some.inj K
  refine jx_le (pl' := [some (.ref o), some (.int v1), some (.int (v2 + 1)), none]) (jle_v (jle_v (jle_v (jle_n jle_nil)))) ?_
  exact HL _ rfl
noncomputable def fSd_isSound_l67_j90 (R : jR) (o : Nat) (v1 : Int32) (v2 : Int32) (s0 : Int32) (h : jH) : Option ((Int32 × Int32) ⊕ ((Unit) ⊕ (Int32))) :=
  (if jin v2 (jsh (R o 2)).2 then
  (if 4 < (h.1 (R o 2) v2.toNatClampNeg) then
  some (.inr (.inl ()))
  else
  (if jin v2 (jsh (R o 3)).2 then
  (if s0 < (h.1 (R o 3) v2.toNatClampNeg) then
  some (.inr (.inl ()))
  else
  (if jin v2 (jsh (R o 2)).2 then
  (if (h.1 (R o 2) v2.toNatClampNeg) = 0 then
  fSd_isSound_l67_j133 R o v1 v2 h
  else
  (if jin v2 (jsh (R o 3)).2 then
  (if (h.1 (R o 3) v2.toNatClampNeg) = 0 then
  fSd_isSound_l67_j133 R o 1 v2 h
  else
  fSd_isSound_l67_j133 R o v1 v2 h)
  else none))
  else none))
  else none))
  else none)
theorem kSd_isSound_l67_j90 {X : jX} {d : Nat} {R : jR} {Q : Option Value → jS → Prop} {o : Nat} {v1 : Int32} {v2 : Int32} {s0 : Int32} {h : jH} (hT : jTy R) (ho : jcl 176 o = 6) (hd : 1 ≤ (d + 1)) {z : (Int32 × Int32) ⊕ ((Unit) ⊕ (Int32))} (K : fSd_isSound_l67_j90 R o v1 v2 s0 h = some z) (HL : ∀ s : Int32 × Int32, z = .inl s → jEx X (d + 1) jc_186 67 [some (.ref o), some (.int s.1), some (.int s.2), none] [] (176, R, h) Q) (HE0 : ∀ x : Unit, z = .inr (.inl x) → jEx X (d + 1) jc_186 111 [none, none, none, none] [] (176, R, h) Q) (HE1 : ∀ x : Int32, z = .inr (.inr x) → jEx X (d + 1) jc_186 139 [none, some (.int x), none, none] [] (176, R, h) Q) :
    jEx X (d + 1) jc_186 90 [some (.ref o), some (.int v1), some (.int v2), none] [.int s0] (176, R, h) Q := by
  unfold fSd_isSound_l67_j90 at K
  refine jx_stin (pc := 90) (p2 := [some (.ref o), some (.int v1), some (.int v2), some (.int s0)]) rfl (jlt rfl) rfl ?_
  refine jx_next (pc := 91) (pc' := 92) rfl rfl ?_
  refine jx_getr (pc := 92) rfl ho ?_
  refine jx_next (pc := 95) (pc' := 96) rfl rfl ?_
  obtain ⟨hg11, K⟩ := jguard K
  refine jx_iald (pc := 96) rfl (jtR hT ho (k := 2) (c := 20) rfl) hg11 ?_
  refine jx_next (pc := 97) (pc' := 98) rfl rfl ?_
  refine jx_icgt (pc := 98) rfl (fun hc12 => ?_) (fun hc12 => ?_)
  · replace K := (if_pos hc12).symm.trans K
    obtain rfl := Option.some.inj K
    refine jx_le (pl' := [none, none, none, none]) (jle_n (jle_n (jle_n (jle_n jle_nil)))) ?_
    exact HE0 _ rfl
  · replace K := (if_neg hc12).symm.trans K
    refine jx_next (pc := 101) (pc' := 102) rfl rfl ?_
    refine jx_getr (pc := 102) rfl ho ?_
    refine jx_next (pc := 105) (pc' := 106) rfl rfl ?_
    obtain ⟨hg13, K⟩ := jguard K
    refine jx_iald (pc := 106) rfl (jtR hT ho (k := 3) (c := 20) rfl) hg13 ?_
    refine jx_next (pc := 107) (pc' := 108) rfl rfl ?_
    refine jx_icle (pc := 108) rfl (fun hc14 => ?_) (fun hc14 => ?_)
    · replace K := (if_pos hc14).symm.trans K
      obtain rfl := Option.some.inj K
      refine jx_le (pl' := [none, none, none, none]) (jle_n (jle_n (jle_n (jle_n jle_nil)))) ?_
      exact HE0 _ rfl
    · replace K := (if_neg hc14).symm.trans K
      refine jx_next (pc := 113) (pc' := 114) rfl rfl ?_
      refine jx_getr (pc := 114) rfl ho ?_
      refine jx_next (pc := 117) (pc' := 118) rfl rfl ?_
      obtain ⟨hg15, K⟩ := jguard K
      refine jx_iald (pc := 118) rfl (jtR hT ho (k := 2) (c := 20) rfl) hg15 ?_
      refine jx_ifeq (pc := 119) rfl (fun hc16 => ?_) (fun hc16 => ?_)
      · replace K := (if_pos hc16).symm.trans K
        refine jx_le (pl' := [some (.ref o), some (.int v1), some (.int v2), none]) (jle_v (jle_v (jle_v (jle_n jle_nil)))) ?_
        exact kSd_isSound_l67_j133 hT ho hd K HL HE0 HE1
      · replace K := (if_neg hc16).symm.trans K
        refine jx_next (pc := 122) (pc' := 123) rfl rfl ?_
        refine jx_getr (pc := 123) rfl ho ?_
        refine jx_next (pc := 126) (pc' := 127) rfl rfl ?_
        obtain ⟨hg17, K⟩ := jguard K
        refine jx_iald (pc := 127) rfl (jtR hT ho (k := 3) (c := 20) rfl) hg17 ?_
        refine jx_ifne (pc := 128) rfl (fun hc18 => ?_) (fun hc18 => ?_)
        · replace K := (if_pos hc18).symm.trans K
          refine jx_next (pc := 131) (pc' := 132) rfl rfl ?_
          refine jx_stin (pc := 132) (p2 := [some (.ref o), some (.int 1), some (.int v2), some (.int s0)]) rfl (jlt rfl) rfl ?_
          refine jx_le (pl' := [some (.ref o), some (.int 1), some (.int v2), none]) (jle_v (jle_v (jle_v (jle_n jle_nil)))) ?_
          exact kSd_isSound_l67_j133 hT ho hd K HL HE0 HE1
        · replace K := (if_neg hc18).symm.trans K
          refine jx_le (pl' := [some (.ref o), some (.int v1), some (.int v2), none]) (jle_v (jle_v (jle_v (jle_n jle_nil)))) ?_
          exact kSd_isSound_l67_j133 hT ho hd K HL HE0 HE1
noncomputable def fSd_isSound_l67_b (R : jR) (o : Nat) (v1 : Int32) (v2 : Int32) (h : jH) : Option ((Int32 × Int32) ⊕ ((Unit) ⊕ (Int32))) :=
  (if v2 < 8 then
  (if jin v2 (jsh (R o 2)).2 then
  (if (h.1 (R o 2) v2.toNatClampNeg) = 0 then
  fSd_isSound_l67_j90 R o v1 v2 0 h
  else
  fSd_isSound_l67_j90 R o v1 v2 (fSd_behindNow R o h) h)
  else none)
  else
  some (.inr (.inr v1)))
noncomputable def fSd_isSound_l67 (R : jR) (o : Nat) (h : jH) : (Int32 × Int32) → Option ((Int32 × Int32) ⊕ ((Unit) ⊕ (Int32))) :=
  fun (s : Int32 × Int32) => fSd_isSound_l67_b R o s.1 s.2 h
theorem kSd_isSound_l67_b {X : jX} {d : Nat} {R : jR} {Q : Option Value → jS → Prop} {o : Nat} {v1 : Int32} {v2 : Int32} {h : jH} (hT : jTy R) (ho : jcl 176 o = 6) (hd : 1 ≤ (d + 1)) {z : (Int32 × Int32) ⊕ ((Unit) ⊕ (Int32))} (K : fSd_isSound_l67_b R o v1 v2 h = some z) (HL : ∀ s : Int32 × Int32, z = .inl s → jEx X (d + 1) jc_186 67 [some (.ref o), some (.int s.1), some (.int s.2), none] [] (176, R, h) Q) (HE0 : ∀ x : Unit, z = .inr (.inl x) → jEx X (d + 1) jc_186 111 [none, none, none, none] [] (176, R, h) Q) (HE1 : ∀ x : Int32, z = .inr (.inr x) → jEx X (d + 1) jc_186 139 [none, some (.int x), none, none] [] (176, R, h) Q) :
    jEx X (d + 1) jc_186 67 [some (.ref o), some (.int v1), some (.int v2), none] [] (176, R, h) Q := by
  unfold fSd_isSound_l67_b at K
  refine jx_next (pc := 67) (pc' := 68) rfl rfl ?_
  refine jx_next (pc := 68) (pc' := 70) rfl rfl ?_
  refine jx_icge (pc := 70) rfl (fun hc8 => ?_) (fun hc8 => ?_)
  · replace K := (if_pos hc8).symm.trans K
    refine jx_next (pc := 73) (pc' := 74) rfl rfl ?_
    refine jx_getr (pc := 74) rfl ho ?_
    refine jx_next (pc := 77) (pc' := 78) rfl rfl ?_
    obtain ⟨hg9, K⟩ := jguard K
    refine jx_iald (pc := 78) rfl (jtR hT ho (k := 2) (c := 20) rfl) hg9 ?_
    refine jx_ifne (pc := 79) rfl (fun hc10 => ?_) (fun hc10 => ?_)
    · replace K := (if_pos hc10).symm.trans K
      refine jx_next (pc := 82) (pc' := 83) rfl rfl ?_
      refine jx_next (pc := 83) (pc' := 90) rfl rfl ?_
      refine jx_le (pl' := [some (.ref o), some (.int v1), some (.int v2), none]) (jle_v (jle_v (jle_v (jle_n jle_nil)))) ?_
      exact kSd_isSound_l67_j90 hT ho hd K HL HE0 HE1
    · replace K := (if_neg hc10).symm.trans K
      refine jx_next (pc := 86) (pc' := 87) rfl rfl ?_
      refine jx_callv (pc := 87) (o := o) (rest := []) rfl ⟨by decide, by decide⟩ rfl ho (Nat.le_of_ble_eq_true rfl) ?_
      refine kSd_behindNow hT ho (by omega) rfl ?_
      refine jx_le (pl' := [some (.ref o), some (.int v1), some (.int v2), none]) (jle_v (jle_v (jle_v (jle_n jle_nil)))) ?_
      exact kSd_isSound_l67_j90 hT ho hd K HL HE0 HE1
  · replace K := (if_neg hc8).symm.trans K
    obtain rfl := Option.some.inj K
    refine jx_le (pl' := [none, some (.int v1), none, none]) (jle_n (jle_v (jle_n (jle_n jle_nil)))) ?_
    exact HE1 _ rfl
theorem kSd_isSound_l67_w {X : jX} {d : Nat} {R : jR} {Q : Option Value → jS → Prop} {o : Nat} {h : jH} (hT : jTy R) (ho : jcl 176 o = 6) (hd : 1 ≤ (d + 1)) {s : Int32 × Int32} {x : (Unit) ⊕ (Int32)} (K : jlim (fSd_isSound_l67 R o h) s = some x) (HE0 : ∀ x0 : Unit, x = .inl x0 → jEx X (d + 1) jc_186 111 [none, none, none, none] [] (176, R, h) Q) (HE1 : ∀ x0 : Int32, x = .inr x0 → jEx X (d + 1) jc_186 139 [none, some (.int x0), none, none] [] (176, R, h) Q) :
    jEx X (d + 1) jc_186 67 [some (.ref o), some (.int s.1), some (.int s.2), none] [] (176, R, h) Q := by
  refine jlim_ok (G := fun s : Int32 × Int32 => jEx X (d + 1) jc_186 67 [some (.ref o), some (.int s.1), some (.int s.2), none] [] (176, R, h) Q) (GX := fun x : (Unit) ⊕ (Int32) => (∀ x0 : Unit, x = .inl x0 → jEx X (d + 1) jc_186 111 [none, none, none, none] [] (176, R, h) Q) ∧ (∀ x0 : Int32, x = .inr x0 → jEx X (d + 1) jc_186 139 [none, some (.int x0), none, none] [] (176, R, h) Q)) (fun s z hz HL HE => ?_) K ⟨HE0, HE1⟩
  exact kSd_isSound_l67_b hT ho hd hz HL (fun x hx => (HE _ hx).1 x rfl) (fun x hx => (HE _ hx).2 x rfl)
noncomputable def fSd_isSound_j64 (R : jR) (o : Nat) (s0 : Int32) (h : jH) : Option Int32 :=
  (Option.bind (jlim (fSd_isSound_l67 R o h) (s0, 0)) (fun (x19 : (Unit) ⊕ (Int32)) => Sum.elim (fun (y19 : Unit) =>
  some (0 : Int32)) (fun (y19 : Int32) =>
  (if y19 = 0 ∨ y19 = 1 then some (y19 : Int32) else none)) x19))
theorem kSd_isSound_j64 {X : jX} {d : Nat} {R : jR} {Q : Option Value → jS → Prop} {o : Nat} {s0 : Int32} {h : jH} (hT : jTy R) (ho : jcl 176 o = 6) (hd : 1 ≤ (d + 1)) {z : Int32} (K : fSd_isSound_j64 R o s0 h = some z) (HQ : Q (some (.int z)) (176, R, h)) :
    jEx X (d + 1) jc_186 64 [some (.ref o), none, none, none] [.int s0] (176, R, h) Q := by
  unfold fSd_isSound_j64 at K
  refine jx_stin (pc := 64) (p2 := [some (.ref o), some (.int s0), none, none]) rfl (jlt rfl) rfl ?_
  refine jx_next (pc := 65) (pc' := 66) rfl rfl ?_
  refine jx_stin (pc := 66) (p2 := [some (.ref o), some (.int s0), some (.int 0), none]) rfl (jlt rfl) rfl ?_
  refine jx_le (pl' := [some (.ref o), some (.int s0), some (.int 0), none]) (jle_v (jle_v (jle_v (jle_n jle_nil)))) ?_
  obtain ⟨x19, hz_x19, K⟩ := Option.bind_eq_some_iff.mp K
  refine kSd_isSound_l67_w hT ho hd hz_x19 (fun y19 hx9 => ?_) (fun y19 hx9 => ?_)
  · subst hx9
    refine jx_next (pc := 111) (pc' := 112) rfl rfl ?_
    obtain rfl := Option.some.inj K
    exact jx_zret (pc := 112) rfl (Or.inl rfl) HQ
  · subst hx9
    refine jx_next (pc := 139) (pc' := 140) rfl rfl ?_
    obtain ⟨hg, K⟩ := jguard K
    obtain rfl := Option.some.inj K
    exact jx_zret (pc := 140) rfl hg HQ
noncomputable def fSd_isSound_j46 (R : jR) (o : Nat) (s0 : Int32) (s1 : Int32) (h : jH) : Option Int32 :=
  (if s0 = s1 then
  (if (h.1 o 1) = (-1) then
  fSd_isSound_j64 R o 1 h
  else
  fSd_isSound_j64 R o 0 h)
  else
  some (0 : Int32))
theorem kSd_isSound_j46 {X : jX} {d : Nat} {R : jR} {Q : Option Value → jS → Prop} {o : Nat} {s0 : Int32} {s1 : Int32} {h : jH} (hT : jTy R) (ho : jcl 176 o = 6) (hd : 1 ≤ (d + 1)) {z : Int32} (K : fSd_isSound_j46 R o s0 s1 h = some z) (HQ : Q (some (.int z)) (176, R, h)) :
    jEx X (d + 1) jc_186 46 [some (.ref o), none, none, none] [.int s1, .int s0] (176, R, h) Q := by
  unfold fSd_isSound_j46 at K
  refine jx_iceq (pc := 46) rfl (fun hc6 => ?_) (fun hc6 => ?_)
  · replace K := (if_pos hc6).symm.trans K
    refine jx_next (pc := 51) (pc' := 52) rfl rfl ?_
    refine jx_geti (pc := 52) rfl ho ?_
    refine jx_next (pc := 55) (pc' := 56) rfl rfl ?_
    refine jx_icne (pc := 56) rfl (fun hc7 => ?_) (fun hc7 => ?_)
    · replace K := (if_pos hc7).symm.trans K
      refine jx_next (pc := 59) (pc' := 60) rfl rfl ?_
      refine jx_next (pc := 60) (pc' := 64) rfl rfl ?_
      refine jx_le (pl' := [some (.ref o), none, none, none]) (jle_v (jle_n (jle_n (jle_n jle_nil)))) ?_
      exact kSd_isSound_j64 hT ho hd K HQ
    · replace K := (if_neg hc7).symm.trans K
      refine jx_next (pc := 63) (pc' := 64) rfl rfl ?_
      refine jx_le (pl' := [some (.ref o), none, none, none]) (jle_v (jle_n (jle_n (jle_n jle_nil)))) ?_
      exact kSd_isSound_j64 hT ho hd K HQ
  · replace K := (if_neg hc6).symm.trans K
    refine jx_next (pc := 49) (pc' := 50) rfl rfl ?_
    obtain rfl := Option.some.inj K
    exact jx_zret (pc := 50) rfl (Or.inl rfl) HQ
noncomputable def fSd_isSound_j34 (R : jR) (o : Nat) (s0 : Int32) (h : jH) : Option Int32 :=
  (Option.bind (fSd_askedSet R o h) (fun (z4 : Int32) =>
  (if z4 = 0 then
  fSd_isSound_j46 R o s0 1 h
  else
  fSd_isSound_j46 R o s0 0 h)))
theorem kSd_isSound_j34 {X : jX} {d : Nat} {R : jR} {Q : Option Value → jS → Prop} {o : Nat} {s0 : Int32} {h : jH} (hT : jTy R) (ho : jcl 176 o = 6) (hd : 1 ≤ (d + 1)) {z : Int32} (K : fSd_isSound_j34 R o s0 h = some z) (HQ : Q (some (.int z)) (176, R, h)) :
    jEx X (d + 1) jc_186 34 [some (.ref o), none, none, none] [.int s0] (176, R, h) Q := by
  unfold fSd_isSound_j34 at K
  refine jx_next (pc := 34) (pc' := 35) rfl rfl ?_
  refine jx_callv (pc := 35) (o := o) (rest := [.int s0]) rfl ⟨by decide, by decide⟩ rfl ho (Nat.le_of_ble_eq_true rfl) ?_
  obtain ⟨z4, hz_z4, K⟩ := Option.bind_eq_some_iff.mp K
  refine kSd_askedSet hT ho (by omega) hz_z4 ?_
  refine jx_ifne (pc := 38) rfl (fun hc5 => ?_) (fun hc5 => ?_)
  · replace K := (if_pos hc5).symm.trans K
    refine jx_next (pc := 41) (pc' := 42) rfl rfl ?_
    refine jx_next (pc := 42) (pc' := 46) rfl rfl ?_
    refine jx_le (pl' := [some (.ref o), none, none, none]) (jle_v (jle_n (jle_n (jle_n jle_nil)))) ?_
    exact kSd_isSound_j46 hT ho hd K HQ
  · replace K := (if_neg hc5).symm.trans K
    refine jx_next (pc := 45) (pc' := 46) rfl rfl ?_
    refine jx_le (pl' := [some (.ref o), none, none, none]) (jle_v (jle_n (jle_n (jle_n jle_nil)))) ?_
    exact kSd_isSound_j46 hT ho hd K HQ
/-- AndGuest$Standing.isSound()Z -/
noncomputable def fSd_isSound (R : jR) (o : Nat) (h : jH) : Option Int32 :=
  (if 999 < (h.1 o 0) then
  some (0 : Int32)
  else
  (if (h.1 o 0) < (h.1 o 1) then
  some (0 : Int32)
  else
  (if (h.1 o 1) = (-1) then
  fSd_isSound_j34 R o 1 h
  else
  fSd_isSound_j34 R o 0 h)))
theorem kSd_isSound {X : jX} {d : Nat} {R : jR} {Q : Option Value → jS → Prop} {o : Nat} {h : jH} (hT : jTy R) (ho : jcl 176 o = 6) (hd : 1 ≤ d) {z : Int32} (K : fSd_isSound R o h = some z) (HQ : Q (some (.int z)) (176, R, h)) :
    jCa X d 186 [.ref o] (176, R, h) Q := by
  obtain ⟨d, rfl⟩ : ∃ d9, d = d9 + 1 := ⟨d - 1, by omega⟩
  unfold fSd_isSound at K
  refine jCa_of (es := jc_186) (pl := [some (.ref o), none, none, none]) (M := jm_186) rfl rfl rfl rfl ?_
  refine jx_next (pc := 0) (pc' := 1) rfl rfl ?_
  refine jx_geti (pc := 1) rfl ho ?_
  refine jx_next (pc := 4) (pc' := 7) rfl rfl ?_
  refine jx_icgt (pc := 7) rfl (fun hc1 => ?_) (fun hc1 => ?_)
  · replace K := (if_pos hc1).symm.trans K
    refine jx_next (pc := 49) (pc' := 50) rfl rfl ?_
    obtain rfl := Option.some.inj K
    exact jx_zret (pc := 50) rfl (Or.inl rfl) HQ
  · replace K := (if_neg hc1).symm.trans K
    refine jx_next (pc := 10) (pc' := 11) rfl rfl ?_
    refine jx_geti (pc := 11) rfl ho ?_
    refine jx_next (pc := 14) (pc' := 15) rfl rfl ?_
    refine jx_geti (pc := 15) rfl ho ?_
    refine jx_icgt (pc := 18) rfl (fun hc2 => ?_) (fun hc2 => ?_)
    · replace K := (if_pos hc2).symm.trans K
      refine jx_next (pc := 49) (pc' := 50) rfl rfl ?_
      obtain rfl := Option.some.inj K
      exact jx_zret (pc := 50) rfl (Or.inl rfl) HQ
    · replace K := (if_neg hc2).symm.trans K
      refine jx_next (pc := 21) (pc' := 22) rfl rfl ?_
      refine jx_geti (pc := 22) rfl ho ?_
      refine jx_next (pc := 25) (pc' := 26) rfl rfl ?_
      refine jx_icne (pc := 26) rfl (fun hc3 => ?_) (fun hc3 => ?_)
      · replace K := (if_pos hc3).symm.trans K
        refine jx_next (pc := 29) (pc' := 30) rfl rfl ?_
        refine jx_next (pc := 30) (pc' := 34) rfl rfl ?_
        refine jx_le (pl' := [some (.ref o), none, none, none]) (jle_v (jle_n (jle_n (jle_n jle_nil)))) ?_
        exact kSd_isSound_j34 hT ho hd K HQ
      · replace K := (if_neg hc3).symm.trans K
        refine jx_next (pc := 33) (pc' := 34) rfl rfl ?_
        refine jx_le (pl' := [some (.ref o), none, none, none]) (jle_v (jle_n (jle_n (jle_n jle_nil)))) ?_
        exact kSd_isSound_j34 hT ho hd K HQ
noncomputable def fSd_readImage_l71_b (R : jR) (o : Nat) (v1 : Nat) (v2 : Int32) (v4 : Int32) (h : jH) : Option ((Int32 × jH) ⊕ (jH)) :=
  (if v4 < v2 then
  (if v4 < 8 then
  (Option.bind (fTp_byteAt R v1 (4 + (3 * v4)) h) (fun (z11 : Int32) =>
  (if jin v4 (jsh (R o 2)).2 then
  (Option.bind (fTp_pairAt R v1 ((4 + (3 * v4)) + 1) (jhI h (R o 2) v4.toNatClampNeg z11)) (fun (z13 : Int32) =>
  (if jin v4 (jsh (R o 3)).2 then
  some (.inl (v4 + 1, jhI (jhI h (R o 2) v4.toNatClampNeg z11) (R o 3) v4.toNatClampNeg z13))
  else none)))
  else none)))
  else
  some (.inr h))
  else
  some (.inr h))
noncomputable def fSd_readImage_l71 (R : jR) (o : Nat) (v1 : Nat) (v2 : Int32) : (Int32 × jH) → Option ((Int32 × jH) ⊕ (jH)) :=
  fun (s : Int32 × jH) => fSd_readImage_l71_b R o v1 v2 s.1 s.2
theorem kSd_readImage_l71_b {X : jX} {d : Nat} {R : jR} {Q : Option Value → jS → Prop} {o : Nat} {v1 : Nat} {v2 : Int32} {v4 : Int32} {h : jH} (hT : jTy R) (ho : jcl 176 o = 6) (hv1 : jcl 176 v1 = 2) (hd : 2 ≤ (d + 1)) {z : (Int32 × jH) ⊕ (jH)} (K : fSd_readImage_l71_b R o v1 v2 v4 h = some z) (HL : ∀ s : Int32 × jH, z = .inl s → jEx X (d + 1) jc_184 71 [some (.ref o), some (.ref v1), some (.int v2), none, some (.int s.1)] [] (176, R, s.2) Q) (HE0 : ∀ x : jH, z = .inr x → jEx X (d + 1) jc_184 126 [some (.ref o), none, none, none, none] [] (176, R, x) Q) :
    jEx X (d + 1) jc_184 71 [some (.ref o), some (.ref v1), some (.int v2), none, some (.int v4)] [] (176, R, h) Q := by
  unfold fSd_readImage_l71_b at K
  refine jx_next (pc := 71) (pc' := 73) rfl rfl ?_
  refine jx_next (pc := 73) (pc' := 74) rfl rfl ?_
  refine jx_icge (pc := 74) rfl (fun hc9 => ?_) (fun hc9 => ?_)
  · replace K := (if_pos hc9).symm.trans K
    refine jx_next (pc := 77) (pc' := 79) rfl rfl ?_
    refine jx_next (pc := 79) (pc' := 81) rfl rfl ?_
    refine jx_icge (pc := 81) rfl (fun hc10 => ?_) (fun hc10 => ?_)
    · replace K := (if_pos hc10).symm.trans K
      refine jx_next (pc := 84) (pc' := 85) rfl rfl ?_
      refine jx_getr (pc := 85) rfl ho ?_
      refine jx_next (pc := 88) (pc' := 90) rfl rfl ?_
      refine jx_next (pc := 90) (pc' := 91) rfl rfl ?_
      refine jx_next (pc := 91) (pc' := 92) rfl rfl ?_
      refine jx_next (pc := 92) (pc' := 93) rfl rfl ?_
      refine jx_next (pc := 93) (pc' := 95) rfl rfl ?_
      refine jx_next (pc := 95) (pc' := 96) rfl rfl ?_
      refine jx_next (pc := 96) (pc' := 97) rfl rfl ?_
      refine jx_callv (pc := 97) (o := v1) (rest := [.int v4, .ref (R o 2)]) rfl ⟨by decide, by decide⟩ rfl hv1 (Nat.le_of_ble_eq_true rfl) ?_
      obtain ⟨z11, hz_z11, K⟩ := Option.bind_eq_some_iff.mp K
      refine kTp_byteAt hT hv1 (by omega) hz_z11 ?_
      obtain ⟨hg12, K⟩ := jguard K
      refine jx_iast (pc := 100) rfl (jtR hT ho (k := 2) (c := 20) rfl) hg12 ?_
      refine jx_next (pc := 101) (pc' := 102) rfl rfl ?_
      refine jx_getr (pc := 102) rfl ho ?_
      refine jx_next (pc := 105) (pc' := 107) rfl rfl ?_
      refine jx_next (pc := 107) (pc' := 108) rfl rfl ?_
      refine jx_next (pc := 108) (pc' := 109) rfl rfl ?_
      refine jx_next (pc := 109) (pc' := 110) rfl rfl ?_
      refine jx_next (pc := 110) (pc' := 112) rfl rfl ?_
      refine jx_next (pc := 112) (pc' := 113) rfl rfl ?_
      refine jx_next (pc := 113) (pc' := 114) rfl rfl ?_
      refine jx_next (pc := 114) (pc' := 115) rfl rfl ?_
      refine jx_next (pc := 115) (pc' := 116) rfl rfl ?_
      refine jx_callv (pc := 116) (o := v1) (rest := [.int v4, .ref (R o 3)]) rfl ⟨by decide, by decide⟩ rfl hv1 (Nat.le_of_ble_eq_true rfl) ?_
      obtain ⟨z13, hz_z13, K⟩ := Option.bind_eq_some_iff.mp K
      refine kTp_pairAt hT hv1 (by omega) hz_z13 ?_
      obtain ⟨hg14, K⟩ := jguard K
      refine jx_iast (pc := 119) rfl (jtR hT ho (k := 3) (c := 20) rfl) hg14 ?_
      refine jx_inc (pc := 120) (x := v4) (p2 := [some (.ref o), some (.ref v1), some (.int v2), none, some (.int (v4 + 1))]) rfl rfl (jlt rfl) rfl ?_
      refine jx_next (pc := 123) (pc' := 71) rfl rfl ?_
      obtain rfl := Option.some.inj K
      refine jx_le (pl' := [some (.ref o), some (.ref v1), some (.int v2), none, some (.int (v4 + 1))]) (jle_v (jle_v (jle_v (jle_n (jle_v jle_nil))))) ?_
      exact HL _ rfl
    · replace K := (if_neg hc10).symm.trans K
      obtain rfl := Option.some.inj K
      refine jx_le (pl' := [some (.ref o), none, none, none, none]) (jle_v (jle_n (jle_n (jle_n (jle_n jle_nil))))) ?_
      exact HE0 _ rfl
  · replace K := (if_neg hc9).symm.trans K
    obtain rfl := Option.some.inj K
    refine jx_le (pl' := [some (.ref o), none, none, none, none]) (jle_v (jle_n (jle_n (jle_n (jle_n jle_nil))))) ?_
    exact HE0 _ rfl
theorem kSd_readImage_l71_w {X : jX} {d : Nat} {R : jR} {Q : Option Value → jS → Prop} {o : Nat} {v1 : Nat} {v2 : Int32} (hT : jTy R) (ho : jcl 176 o = 6) (hv1 : jcl 176 v1 = 2) (hd : 2 ≤ (d + 1)) {s : Int32 × jH} {x : jH} (K : jlim (fSd_readImage_l71 R o v1 v2) s = some x) (HE : jEx X (d + 1) jc_184 126 [some (.ref o), none, none, none, none] [] (176, R, x) Q) :
    jEx X (d + 1) jc_184 71 [some (.ref o), some (.ref v1), some (.int v2), none, some (.int s.1)] [] (176, R, s.2) Q := by
  refine jlim_ok (G := fun s : Int32 × jH => jEx X (d + 1) jc_184 71 [some (.ref o), some (.ref v1), some (.int v2), none, some (.int s.1)] [] (176, R, s.2) Q) (GX := fun x : jH => jEx X (d + 1) jc_184 126 [some (.ref o), none, none, none, none] [] (176, R, x) Q) (fun s z hz HL HE => ?_) K HE
  exact kSd_readImage_l71_b hT ho hv1 hd hz HL HE
noncomputable def fSd_readImage_j65 (R : jR) (o : Nat) (v1 : Nat) (v2 : Int32) (s0 : Nat) (s1 : Int32) (h : jH) : Option (Int32 × jH) :=
  (Option.bind (jlim (fSd_readImage_l71 R o v1 v2) (0, jhI h s0 1 s1)) (fun (x15 : jH) =>
  (Option.bind (fSd_isSound R o x15) (fun (z16 : Int32) =>
  (if z16 = 0 ∨ z16 = 1 then some (z16, x15) else none)))))
theorem kSd_readImage_j65 {X : jX} {d : Nat} {R : jR} {Q : Option Value → jS → Prop} {o : Nat} {v1 : Nat} {v2 : Int32} {s0 : Nat} {s1 : Int32} {h : jH} (hT : jTy R) (ho : jcl 176 o = 6) (hv1 : jcl 176 v1 = 2) (hs0 : jcl 176 s0 = 6) (hd : 2 ≤ (d + 1)) {z : Int32 × jH} (K : fSd_readImage_j65 R o v1 v2 s0 s1 h = some z) (HQ : Q (some (.int z.1)) (176, R, z.2)) :
    jEx X (d + 1) jc_184 65 [some (.ref o), some (.ref v1), some (.int v2), none, none] [.int s1, .ref s0] (176, R, h) Q := by
  unfold fSd_readImage_j65 at K
  refine jx_puti (pc := 65) rfl hs0 ?_
  refine jx_next (pc := 68) (pc' := 69) rfl rfl ?_
  refine jx_sti (pc := 69) (p2 := [some (.ref o), some (.ref v1), some (.int v2), none, some (.int 0)]) rfl (jlt rfl) rfl ?_
  refine jx_le (pl' := [some (.ref o), some (.ref v1), some (.int v2), none, some (.int 0)]) (jle_v (jle_v (jle_v (jle_n (jle_v jle_nil))))) ?_
  obtain ⟨x15, hz_x15, K⟩ := Option.bind_eq_some_iff.mp K
  refine kSd_readImage_l71_w hT ho hv1 hd hz_x15 ?_
  refine jx_next (pc := 126) (pc' := 127) rfl rfl ?_
  refine jx_callv (pc := 127) (o := o) (rest := []) rfl ⟨by decide, by decide⟩ rfl ho (Nat.le_of_ble_eq_true rfl) ?_
  obtain ⟨z16, hz_z16, K⟩ := Option.bind_eq_some_iff.mp K
  refine kSd_isSound hT ho (by omega) hz_z16 ?_
  obtain ⟨hg, K⟩ := jguard K
  obtain rfl := Option.some.inj K
  exact jx_zret (pc := 130) rfl hg HQ
/-- AndGuest$Standing.readImage(LAndGuest$Tape;I)Z -/
noncomputable def fSd_readImage (R : jR) (o : Nat) (v1 : Nat) (v2 : Int32) (h : jH) : Option (Int32 × jH) :=
  (if (fTp_size R v1 h) = (fSd_imageSize v2) then
  (Option.bind (fTp_byteAt R v1 ((fSd_imageSize v2) - 1) h) (fun (z2 : Int32) =>
  (Option.bind (fTp_checkOf R v1 ((fSd_imageSize v2) - 1) h) (fun (z3 : Int32) =>
  (if z2 = z3 then
  (Option.bind (fSd_clear R o h) (fun (z5 : jH) =>
  (Option.bind (fTp_pairAt R v1 0 z5) (fun (z6 : Int32) =>
  (Option.bind (fTp_pairAt R v1 2 (jhI z5 o 0 z6)) (fun (z7 : Int32) =>
  (if z7 = 65535 then
  fSd_readImage_j65 R o v1 v2 o (-1) (jhI z5 o 0 z6)
  else
  (Option.bind (fTp_pairAt R v1 2 (jhI z5 o 0 z6)) (fun (z17 : Int32) =>
  fSd_readImage_j65 R o v1 v2 o z17 (jhI z5 o 0 z6))))))))))
  else
  some (0, h))))))
  else
  some (0, h))
theorem kSd_readImage {X : jX} {d : Nat} {R : jR} {Q : Option Value → jS → Prop} {o : Nat} {v1 : Nat} {v2 : Int32} {h : jH} (hT : jTy R) (ho : jcl 176 o = 6) (hv1 : jcl 176 v1 = 2) (hd : 2 ≤ d) {z : Int32 × jH} (K : fSd_readImage R o v1 v2 h = some z) (HQ : Q (some (.int z.1)) (176, R, z.2)) :
    jCa X d 184 [.ref o, .ref v1, .int v2] (176, R, h) Q := by
  obtain ⟨d, rfl⟩ : ∃ d9, d = d9 + 1 := ⟨d - 1, by omega⟩
  unfold fSd_readImage at K
  refine jCa_of (es := jc_184) (pl := [some (.ref o), some (.ref v1), some (.int v2), none, none]) (M := jm_184) rfl rfl rfl rfl ?_
  refine jx_next (pc := 0) (pc' := 1) rfl rfl ?_
  refine jx_calls (pc := 1) rfl (Nat.le_of_ble_eq_true rfl) (Nat.le_of_ble_eq_true rfl) ?_
  refine kSd_imageSize  (by omega) rfl ?_
  refine jx_stin (pc := 4) (p2 := [some (.ref o), some (.ref v1), some (.int v2), some (.int (fSd_imageSize v2)), none]) rfl (jlt rfl) rfl ?_
  refine jx_next (pc := 5) (pc' := 6) rfl rfl ?_
  refine jx_callv (pc := 6) (o := v1) (rest := []) rfl ⟨by decide, by decide⟩ rfl hv1 (Nat.le_of_ble_eq_true rfl) ?_
  refine kTp_size hT hv1 (by omega) rfl ?_
  refine jx_next (pc := 9) (pc' := 10) rfl rfl ?_
  refine jx_icne (pc := 10) rfl (fun hc1 => ?_) (fun hc1 => ?_)
  · replace K := (if_pos hc1).symm.trans K
    refine jx_next (pc := 13) (pc' := 14) rfl rfl ?_
    refine jx_next (pc := 14) (pc' := 15) rfl rfl ?_
    refine jx_next (pc := 15) (pc' := 16) rfl rfl ?_
    refine jx_next (pc := 16) (pc' := 17) rfl rfl ?_
    refine jx_callv (pc := 17) (o := v1) (rest := []) rfl ⟨by decide, by decide⟩ rfl hv1 (Nat.le_of_ble_eq_true rfl) ?_
    obtain ⟨z2, hz_z2, K⟩ := Option.bind_eq_some_iff.mp K
    refine kTp_byteAt hT hv1 (by omega) hz_z2 ?_
    refine jx_next (pc := 20) (pc' := 21) rfl rfl ?_
    refine jx_next (pc := 21) (pc' := 22) rfl rfl ?_
    refine jx_next (pc := 22) (pc' := 23) rfl rfl ?_
    refine jx_next (pc := 23) (pc' := 24) rfl rfl ?_
    refine jx_callv (pc := 24) (o := v1) (rest := [.int z2]) rfl ⟨by decide, by decide⟩ rfl hv1 (Nat.le_of_ble_eq_true rfl) ?_
    obtain ⟨z3, hz_z3, K⟩ := Option.bind_eq_some_iff.mp K
    refine kTp_checkOf hT hv1 (by omega) hz_z3 ?_
    refine jx_iceq (pc := 27) rfl (fun hc4 => ?_) (fun hc4 => ?_)
    · replace K := (if_pos hc4).symm.trans K
      refine jx_next (pc := 32) (pc' := 33) rfl rfl ?_
      refine jx_callv (pc := 33) (o := o) (rest := []) rfl ⟨by decide, by decide⟩ rfl ho (Nat.le_of_ble_eq_true rfl) ?_
      obtain ⟨z5, hz_z5, K⟩ := Option.bind_eq_some_iff.mp K
      refine kSd_clear hT ho (by omega) hz_z5 ?_
      refine jx_next (pc := 36) (pc' := 37) rfl rfl ?_
      refine jx_next (pc := 37) (pc' := 38) rfl rfl ?_
      refine jx_next (pc := 38) (pc' := 39) rfl rfl ?_
      refine jx_callv (pc := 39) (o := v1) (rest := [.ref o]) rfl ⟨by decide, by decide⟩ rfl hv1 (Nat.le_of_ble_eq_true rfl) ?_
      obtain ⟨z6, hz_z6, K⟩ := Option.bind_eq_some_iff.mp K
      refine kTp_pairAt hT hv1 (by omega) hz_z6 ?_
      refine jx_puti (pc := 42) rfl ho ?_
      refine jx_next (pc := 45) (pc' := 46) rfl rfl ?_
      refine jx_next (pc := 46) (pc' := 47) rfl rfl ?_
      refine jx_next (pc := 47) (pc' := 48) rfl rfl ?_
      refine jx_callv (pc := 48) (o := v1) (rest := [.ref o]) rfl ⟨by decide, by decide⟩ rfl hv1 (Nat.le_of_ble_eq_true rfl) ?_
      obtain ⟨z7, hz_z7, K⟩ := Option.bind_eq_some_iff.mp K
      refine kTp_pairAt hT hv1 (by omega) hz_z7 ?_
      refine jx_next (pc := 51) (pc' := 53) rfl rfl ?_
      refine jx_icne (pc := 53) rfl (fun hc8 => ?_) (fun hc8 => ?_)
      · replace K := (if_pos hc8).symm.trans K
        refine jx_next (pc := 56) (pc' := 57) rfl rfl ?_
        refine jx_next (pc := 57) (pc' := 65) rfl rfl ?_
        refine jx_le (pl' := [some (.ref o), some (.ref v1), some (.int v2), none, none]) (jle_v (jle_v (jle_v (jle_n (jle_n jle_nil))))) ?_
        exact kSd_readImage_j65 hT ho hv1 ho hd K HQ
      · replace K := (if_neg hc8).symm.trans K
        refine jx_next (pc := 60) (pc' := 61) rfl rfl ?_
        refine jx_next (pc := 61) (pc' := 62) rfl rfl ?_
        refine jx_callv (pc := 62) (o := v1) (rest := [.ref o]) rfl ⟨by decide, by decide⟩ rfl hv1 (Nat.le_of_ble_eq_true rfl) ?_
        obtain ⟨z17, hz_z17, K⟩ := Option.bind_eq_some_iff.mp K
        refine kTp_pairAt hT hv1 (by omega) hz_z17 ?_
        refine jx_le (pl' := [some (.ref o), some (.ref v1), some (.int v2), none, none]) (jle_v (jle_v (jle_v (jle_n (jle_n jle_nil))))) ?_
        exact kSd_readImage_j65 hT ho hv1 ho hd K HQ
    · replace K := (if_neg hc4).symm.trans K
      refine jx_next (pc := 30) (pc' := 31) rfl rfl ?_
      obtain rfl := Option.some.inj K
      exact jx_zret (pc := 31) rfl (Or.inl rfl) HQ
  · replace K := (if_neg hc1).symm.trans K
    refine jx_next (pc := 30) (pc' := 31) rfl rfl ?_
    obtain rfl := Option.some.inj K
    exact jx_zret (pc := 31) rfl (Or.inl rfl) HQ
noncomputable def fA_on_j36 (R : jR) (o : Nat) (s0 : Int32) (h : jH) : Option (Int32 × jH) :=
  (if s0 = 0 then
  (Option.bind (fA_refuse R o 5 (fTp_cut R (R o 0) 0 h)) (fun (z4 : jH) =>
  some (0, z4)))
  else
  (Option.bind (fSd_copyFrom R (R o 5) (R o 6) (fTp_cut R (R o 0) 0 h)) (fun (z5 : jH) =>
  some (1, (fPa_clear R (R o 7) z5)))))
theorem kA_on_j36 {X : jX} {d : Nat} {R : jR} {Q : Option Value → jS → Prop} {o : Nat} {s0 : Int32} {h : jH} (hT : jTy R) (ho : jcl 176 o = 1) (hd : 3 ≤ (d + 1)) {z : Int32 × jH} (K : fA_on_j36 R o s0 h = some z) (HQ : Q (some (.int z.1)) (176, R, z.2)) :
    jEx X (d + 1) jc_183 36 [some (.ref o), none] [.int s0] (176, R, h) Q := by
  unfold fA_on_j36 at K
  refine jx_stin (pc := 36) (p2 := [some (.ref o), some (.int s0)]) rfl (jlt rfl) rfl ?_
  refine jx_next (pc := 37) (pc' := 38) rfl rfl ?_
  refine jx_getr (pc := 38) rfl ho ?_
  refine jx_next (pc := 41) (pc' := 42) rfl rfl ?_
  refine jx_callv (pc := 42) (o := (R o 0)) (rest := []) rfl ⟨by decide, by decide⟩ rfl (jtR hT ho (k := 0) (c := 2) rfl) (Nat.le_of_ble_eq_true rfl) ?_
  refine kTp_cut hT (jtR hT ho (k := 0) (c := 2) rfl) (by omega) rfl ?_
  refine jx_next (pc := 45) (pc' := 46) rfl rfl ?_
  refine jx_ifne (pc := 46) rfl (fun hc3 => ?_) (fun hc3 => ?_)
  · replace K := (if_pos hc3).symm.trans K
    refine jx_next (pc := 49) (pc' := 50) rfl rfl ?_
    refine jx_next (pc := 50) (pc' := 51) rfl rfl ?_
    refine jx_callv (pc := 51) (o := o) (rest := []) rfl ⟨by decide, by decide⟩ rfl ho (Nat.le_of_ble_eq_true rfl) ?_
    obtain ⟨z4, hz_z4, K⟩ := Option.bind_eq_some_iff.mp K
    refine kA_refuse hT ho (by omega) hz_z4 ?_
    refine jx_next (pc := 54) (pc' := 55) rfl rfl ?_
    obtain rfl := Option.some.inj K
    exact jx_zret (pc := 55) rfl (Or.inl rfl) HQ
  · replace K := (if_neg hc3).symm.trans K
    refine jx_next (pc := 56) (pc' := 57) rfl rfl ?_
    refine jx_getr (pc := 57) rfl ho ?_
    refine jx_next (pc := 60) (pc' := 61) rfl rfl ?_
    refine jx_getr (pc := 61) rfl ho ?_
    refine jx_callv (pc := 64) (o := (R o 5)) (rest := []) rfl ⟨by decide, by decide⟩ rfl (jtR hT ho (k := 5) (c := 6) rfl) (Nat.le_of_ble_eq_true rfl) ?_
    obtain ⟨z5, hz_z5, K⟩ := Option.bind_eq_some_iff.mp K
    refine kSd_copyFrom hT (jtR hT ho (k := 5) (c := 6) rfl) (jtR hT ho (k := 6) (c := 6) rfl) (by omega) hz_z5 ?_
    refine jx_next (pc := 67) (pc' := 68) rfl rfl ?_
    refine jx_getr (pc := 68) rfl ho ?_
    refine jx_callv (pc := 71) (o := (R o 7)) (rest := []) rfl ⟨by decide, by decide⟩ rfl (jtR hT ho (k := 7) (c := 7) rfl) (Nat.le_of_ble_eq_true rfl) ?_
    refine kPa_clear hT (jtR hT ho (k := 7) (c := 7) rfl) (by omega) rfl ?_
    refine jx_next (pc := 74) (pc' := 75) rfl rfl ?_
    obtain rfl := Option.some.inj K
    exact jx_zret (pc := 75) rfl (Or.inr rfl) HQ
noncomputable def fA_on_j35 (R : jR) (o : Nat) (h : jH) : Option (Int32 × jH) :=
  fA_on_j36 R o 0 h
theorem kA_on_j35 {X : jX} {d : Nat} {R : jR} {Q : Option Value → jS → Prop} {o : Nat} {h : jH} (hT : jTy R) (ho : jcl 176 o = 1) (hd : 3 ≤ (d + 1)) {z : Int32 × jH} (K : fA_on_j35 R o h = some z) (HQ : Q (some (.int z.1)) (176, R, z.2)) :
    jEx X (d + 1) jc_183 35 [some (.ref o), none] [] (176, R, h) Q := by
  unfold fA_on_j35 at K
  refine jx_next (pc := 35) (pc' := 36) rfl rfl ?_
  refine jx_le (pl' := [some (.ref o), none]) (jle_v (jle_n jle_nil)) ?_
  exact kA_on_j36 hT ho hd K HQ
/-- AndGuest.on()Z -/
noncomputable def fA_on (R : jR) (o : Nat) (h : jH) : Option (Int32 × jH) :=
  (if (h.1 o 12) = 0 then
  fA_on_j35 R o h
  else
  (Option.bind (fSd_readImage R (R o 6) (R o 0) (h.1 (fPy_plan R (R o 8) h) 0) h) (fun (z7 : Int32 × jH) =>
  (if z7.1 = 0 then
  fA_on_j35 R o z7.2
  else
  fA_on_j36 R o 1 z7.2))))
theorem kA_on {X : jX} {d : Nat} {R : jR} {Q : Option Value → jS → Prop} {o : Nat} {h : jH} (hT : jTy R) (ho : jcl 176 o = 1) (hd : 3 ≤ d) {z : Int32 × jH} (K : fA_on R o h = some z) (HQ : Q (some (.int z.1)) (176, R, z.2)) :
    jCa X d 183 [.ref o] (176, R, h) Q := by
  obtain ⟨d, rfl⟩ : ∃ d9, d = d9 + 1 := ⟨d - 1, by omega⟩
  unfold fA_on at K
  refine jCa_of (es := jc_183) (pl := [some (.ref o), none]) (M := jm_183) rfl rfl rfl rfl ?_
  refine jx_next (pc := 0) (pc' := 1) rfl rfl ?_
  refine jx_getz (pc := 1) rfl ho ?_
  refine jx_ifeq (pc := 4) rfl (fun hc1 => ?_) (fun hc1 => ?_)
  · replace K := (if_pos hc1).symm.trans K
    refine jx_le (pl' := [some (.ref o), none]) (jle_v (jle_n jle_nil)) ?_
    exact kA_on_j35 hT ho hd K HQ
  · replace K := (if_neg hc1).symm.trans K
    refine jx_next (pc := 7) (pc' := 8) rfl rfl ?_
    refine jx_getr (pc := 8) rfl ho ?_
    refine jx_next (pc := 11) (pc' := 12) rfl rfl ?_
    refine jx_getr (pc := 12) rfl ho ?_
    refine jx_next (pc := 15) (pc' := 16) rfl rfl ?_
    refine jx_getr (pc := 16) rfl ho ?_
    refine jx_callv (pc := 19) (o := (R o 8)) (rest := [.ref (R o 0), .ref (R o 6)]) rfl ⟨by decide, by decide⟩ rfl (jtR hT ho (k := 8) (c := 8) rfl) (Nat.le_of_ble_eq_true rfl) ?_
    refine kPy_plan hT (jtR hT ho (k := 8) (c := 8) rfl) (by omega) rfl ?_
    refine jx_geti (pc := 22) rfl (kPy_plan_c hT (jtR hT ho (k := 8) (c := 8) rfl)) ?_
    refine jx_callv (pc := 25) (o := (R o 6)) (rest := []) rfl ⟨by decide, by decide⟩ rfl (jtR hT ho (k := 6) (c := 6) rfl) (Nat.le_of_ble_eq_true rfl) ?_
    obtain ⟨z7, hz_z7, K⟩ := Option.bind_eq_some_iff.mp K
    refine kSd_readImage hT (jtR hT ho (k := 6) (c := 6) rfl) (jtR hT ho (k := 0) (c := 2) rfl) (by omega) hz_z7 ?_
    refine jx_ifeq (pc := 28) rfl (fun hc8 => ?_) (fun hc8 => ?_)
    · replace K := (if_pos hc8).symm.trans K
      refine jx_le (pl' := [some (.ref o), none]) (jle_v (jle_n jle_nil)) ?_
      exact kA_on_j35 hT ho hd K HQ
    · replace K := (if_neg hc8).symm.trans K
      refine jx_next (pc := 31) (pc' := 32) rfl rfl ?_
      refine jx_next (pc := 32) (pc' := 36) rfl rfl ?_
      refine jx_le (pl' := [some (.ref o), none]) (jle_v (jle_n jle_nil)) ?_
      exact kA_on_j36 hT ho hd K HQ
/-- AndGuest.status(I)I -/
noncomputable def fA_status (R : jR) (o : Nat) (v1 : Int32) (h : jH) : Option Int32 :=
  (if v1 < 0 then
  some ((-1) : Int32)
  else
  (if v1 < (Int32.ofNat (jsh (R o 10)).2) then
  (if jin v1 (jsh (R o 10)).2 then
  some (h.1 (R o 10) v1.toNatClampNeg : Int32)
  else none)
  else
  some ((-1) : Int32)))
theorem kA_status {X : jX} {d : Nat} {R : jR} {Q : Option Value → jS → Prop} {o : Nat} {v1 : Int32} {h : jH} (hT : jTy R) (ho : jcl 176 o = 1) (hd : 0 ≤ d) {z : Int32} (K : fA_status R o v1 h = some z) (HQ : Q (some (.int z)) (176, R, h)) :
    jCa X d 187 [.ref o, .int v1] (176, R, h) Q := by
  unfold fA_status at K
  refine jCa_of (es := jc_187) (pl := [some (.ref o), some (.int v1)]) (M := jm_187) rfl rfl rfl rfl ?_
  refine jx_next (pc := 0) (pc' := 1) rfl rfl ?_
  refine jx_iflt (pc := 1) rfl (fun hc1 => ?_) (fun hc1 => ?_)
  · replace K := (if_pos hc1).symm.trans K
    refine jx_next (pc := 22) (pc' := 23) rfl rfl ?_
    obtain rfl := Option.some.inj K
    exact jx_iret (pc := 23) rfl HQ
  · replace K := (if_neg hc1).symm.trans K
    refine jx_next (pc := 4) (pc' := 5) rfl rfl ?_
    refine jx_next (pc := 5) (pc' := 6) rfl rfl ?_
    refine jx_getr (pc := 6) rfl ho ?_
    refine jx_alen (pc := 9) rfl (jtR hT ho (k := 10) (c := 20) rfl) ⟨by decide, by decide⟩ ?_
    refine jx_icge (pc := 10) rfl (fun hc2 => ?_) (fun hc2 => ?_)
    · replace K := (if_pos hc2).symm.trans K
      refine jx_next (pc := 13) (pc' := 14) rfl rfl ?_
      refine jx_getr (pc := 14) rfl ho ?_
      refine jx_next (pc := 17) (pc' := 18) rfl rfl ?_
      obtain ⟨hg3, K⟩ := jguard K
      refine jx_iald (pc := 18) rfl (jtR hT ho (k := 10) (c := 20) rfl) hg3 ?_
      refine jx_next (pc := 19) (pc' := 23) rfl rfl ?_
      obtain rfl := Option.some.inj K
      exact jx_iret (pc := 23) rfl HQ
    · replace K := (if_neg hc2).symm.trans K
      refine jx_next (pc := 22) (pc' := 23) rfl rfl ?_
      obtain rfl := Option.some.inj K
      exact jx_iret (pc := 23) rfl HQ
noncomputable def fM_feed_l28_j81 (R : jR) (o : Nat) (v1 : Int32) (v2 : Int32) (v3 : Int32) (v4 : Int32) (v5 : Int32) (v6 : Int32) (s0 : Int32) (h : jH) : Option ((Int32 × jH) ⊕ (jH)) :=
  (if jin (h.1 o 1) (jsh (R o 0)).2 then
  some (.inl (v6 + 1, jhI (jhI h (R o 0) (h.1 o 1).toNatClampNeg ((s0 >>> ((8 * (3 - (v6 - v6 / 4 * 4))) &&& 31)) &&& 255)) o 1 (((jhI h (R o 0) (h.1 o 1).toNatClampNeg ((s0 >>> ((8 * (3 - (v6 - v6 / 4 * 4))) &&& 31)) &&& 255)).1 o 1) + 1)))
  else none)
theorem kM_feed_l28_j81 {X : jX} {d : Nat} {R : jR} {Q : Option Value → jS → Prop} {o : Nat} {v1 : Int32} {v2 : Int32} {v3 : Int32} {v4 : Int32} {v5 : Int32} {v6 : Int32} {s0 : Int32} {h : jH} (hT : jTy R) (ho : jcl 176 o = 12) (hd : 0 ≤ d) {z : (Int32 × jH) ⊕ (jH)} (K : fM_feed_l28_j81 R o v1 v2 v3 v4 v5 v6 s0 h = some z) (HL : ∀ s : Int32 × jH, z = .inl s → jEx X d jc_188 28 [some (.ref o), some (.int v1), some (.int v2), some (.int v3), some (.int v4), some (.int v5), some (.int s.1), none] [] (176, R, s.2) Q) (HE0 : ∀ x : jH, z = .inr x → jEx X d jc_188 124 [some (.ref o), none, none, none, none, none, none, none] [] (176, R, x) Q) :
    jEx X d jc_188 81 [some (.ref o), some (.int v1), some (.int v2), some (.int v3), some (.int v4), some (.int v5), some (.int v6), none] [.int s0] (176, R, h) Q := by
  unfold fM_feed_l28_j81 at K
  refine jx_sti (pc := 81) (p2 := [some (.ref o), some (.int v1), some (.int v2), some (.int v3), some (.int v4), some (.int v5), some (.int v6), some (.int s0)]) rfl (jlt rfl) rfl ?_
  refine jx_next (pc := 83) (pc' := 84) rfl rfl ?_
  refine jx_getr (pc := 84) rfl ho ?_
  refine jx_next (pc := 87) (pc' := 88) rfl rfl ?_
  refine jx_geti (pc := 88) rfl ho ?_
  refine jx_next (pc := 91) (pc' := 93) rfl rfl ?_
  refine jx_next (pc := 93) (pc' := 95) rfl rfl ?_
  refine jx_next (pc := 95) (pc' := 96) rfl rfl ?_
  refine jx_next (pc := 96) (pc' := 98) rfl rfl ?_
  refine jx_next (pc := 98) (pc' := 99) rfl rfl ?_
  refine jx_irem (pc := 99) rfl (by decide) ?_
  refine jx_next (pc := 100) (pc' := 101) rfl rfl ?_
  refine jx_next (pc := 101) (pc' := 102) rfl rfl ?_
  refine jx_next (pc := 102) (pc' := 103) rfl rfl ?_
  refine jx_next (pc := 103) (pc' := 106) rfl rfl ?_
  refine jx_next (pc := 106) (pc' := 107) rfl rfl ?_
  obtain ⟨hg6, K⟩ := jguard K
  refine jx_iast (pc := 107) rfl (jtR hT ho (k := 0) (c := 20) rfl) hg6 ?_
  refine jx_next (pc := 108) (pc' := 109) rfl rfl ?_
  refine jx_next (pc := 109) (pc' := 110) rfl rfl ?_
  refine jx_geti (pc := 110) rfl ho ?_
  refine jx_next (pc := 113) (pc' := 114) rfl rfl ?_
  refine jx_next (pc := 114) (pc' := 115) rfl rfl ?_
  refine jx_puti (pc := 115) rfl ho ?_
  refine jx_inc (pc := 118) (x := v6) (p2 := [some (.ref o), some (.int v1), some (.int v2), some (.int v3), some (.int v4), some (.int v5), some (.int (v6 + 1)), some (.int s0)]) rfl rfl (jlt rfl) rfl ?_
  refine jx_next (pc := 121) (pc' := 28) rfl rfl ?_
  obtain rfl := Option.some.inj K
  refine jx_le (pl' := [some (.ref o), some (.int v1), some (.int v2), some (.int v3), some (.int v4), some (.int v5), some (.int (v6 + 1)), none]) (jle_v (jle_v (jle_v (jle_v (jle_v (jle_v (jle_v (jle_n jle_nil)))))))) ?_
  exact HL _ rfl
noncomputable def fM_feed_l28_b (R : jR) (o : Nat) (v1 : Int32) (v2 : Int32) (v3 : Int32) (v4 : Int32) (v5 : Int32) (v6 : Int32) (h : jH) : Option ((Int32 × jH) ⊕ (jH)) :=
  (if v6 < 20 then
  (if v6 < 4 then
  fM_feed_l28_j81 R o v1 v2 v3 v4 v5 v6 v1 h
  else
  (if v6 < 8 then
  fM_feed_l28_j81 R o v1 v2 v3 v4 v5 v6 v2 h
  else
  (if v6 < 12 then
  fM_feed_l28_j81 R o v1 v2 v3 v4 v5 v6 v3 h
  else
  (if v6 < 16 then
  fM_feed_l28_j81 R o v1 v2 v3 v4 v5 v6 v4 h
  else
  fM_feed_l28_j81 R o v1 v2 v3 v4 v5 v6 v5 h))))
  else
  some (.inr h))
noncomputable def fM_feed_l28 (R : jR) (o : Nat) (v1 : Int32) (v2 : Int32) (v3 : Int32) (v4 : Int32) (v5 : Int32) : (Int32 × jH) → Option ((Int32 × jH) ⊕ (jH)) :=
  fun (s : Int32 × jH) => fM_feed_l28_b R o v1 v2 v3 v4 v5 s.1 s.2
theorem kM_feed_l28_b {X : jX} {d : Nat} {R : jR} {Q : Option Value → jS → Prop} {o : Nat} {v1 : Int32} {v2 : Int32} {v3 : Int32} {v4 : Int32} {v5 : Int32} {v6 : Int32} {h : jH} (hT : jTy R) (ho : jcl 176 o = 12) (hd : 0 ≤ d) {z : (Int32 × jH) ⊕ (jH)} (K : fM_feed_l28_b R o v1 v2 v3 v4 v5 v6 h = some z) (HL : ∀ s : Int32 × jH, z = .inl s → jEx X d jc_188 28 [some (.ref o), some (.int v1), some (.int v2), some (.int v3), some (.int v4), some (.int v5), some (.int s.1), none] [] (176, R, s.2) Q) (HE0 : ∀ x : jH, z = .inr x → jEx X d jc_188 124 [some (.ref o), none, none, none, none, none, none, none] [] (176, R, x) Q) :
    jEx X d jc_188 28 [some (.ref o), some (.int v1), some (.int v2), some (.int v3), some (.int v4), some (.int v5), some (.int v6), none] [] (176, R, h) Q := by
  unfold fM_feed_l28_b at K
  refine jx_next (pc := 28) (pc' := 30) rfl rfl ?_
  refine jx_next (pc := 30) (pc' := 32) rfl rfl ?_
  refine jx_icge (pc := 32) rfl (fun hc4 => ?_) (fun hc4 => ?_)
  · replace K := (if_pos hc4).symm.trans K
    refine jx_next (pc := 35) (pc' := 37) rfl rfl ?_
    refine jx_next (pc := 37) (pc' := 38) rfl rfl ?_
    refine jx_icge (pc := 38) rfl (fun hc5 => ?_) (fun hc5 => ?_)
    · replace K := (if_pos hc5).symm.trans K
      refine jx_next (pc := 41) (pc' := 42) rfl rfl ?_
      refine jx_next (pc := 42) (pc' := 81) rfl rfl ?_
      refine jx_le (pl' := [some (.ref o), some (.int v1), some (.int v2), some (.int v3), some (.int v4), some (.int v5), some (.int v6), none]) (jle_v (jle_v (jle_v (jle_v (jle_v (jle_v (jle_v (jle_n jle_nil)))))))) ?_
      exact kM_feed_l28_j81 hT ho hd K HL HE0
    · replace K := (if_neg hc5).symm.trans K
      refine jx_next (pc := 45) (pc' := 47) rfl rfl ?_
      refine jx_next (pc := 47) (pc' := 49) rfl rfl ?_
      refine jx_icge (pc := 49) rfl (fun hc7 => ?_) (fun hc7 => ?_)
      · replace K := (if_pos hc7).symm.trans K
        refine jx_next (pc := 52) (pc' := 53) rfl rfl ?_
        refine jx_next (pc := 53) (pc' := 81) rfl rfl ?_
        refine jx_le (pl' := [some (.ref o), some (.int v1), some (.int v2), some (.int v3), some (.int v4), some (.int v5), some (.int v6), none]) (jle_v (jle_v (jle_v (jle_v (jle_v (jle_v (jle_v (jle_n jle_nil)))))))) ?_
        exact kM_feed_l28_j81 hT ho hd K HL HE0
      · replace K := (if_neg hc7).symm.trans K
        refine jx_next (pc := 56) (pc' := 58) rfl rfl ?_
        refine jx_next (pc := 58) (pc' := 60) rfl rfl ?_
        refine jx_icge (pc := 60) rfl (fun hc8 => ?_) (fun hc8 => ?_)
        · replace K := (if_pos hc8).symm.trans K
          refine jx_next (pc := 63) (pc' := 64) rfl rfl ?_
          refine jx_next (pc := 64) (pc' := 81) rfl rfl ?_
          refine jx_le (pl' := [some (.ref o), some (.int v1), some (.int v2), some (.int v3), some (.int v4), some (.int v5), some (.int v6), none]) (jle_v (jle_v (jle_v (jle_v (jle_v (jle_v (jle_v (jle_n jle_nil)))))))) ?_
          exact kM_feed_l28_j81 hT ho hd K HL HE0
        · replace K := (if_neg hc8).symm.trans K
          refine jx_next (pc := 67) (pc' := 69) rfl rfl ?_
          refine jx_next (pc := 69) (pc' := 71) rfl rfl ?_
          refine jx_icge (pc := 71) rfl (fun hc9 => ?_) (fun hc9 => ?_)
          · replace K := (if_pos hc9).symm.trans K
            refine jx_next (pc := 74) (pc' := 76) rfl rfl ?_
            refine jx_next (pc := 76) (pc' := 81) rfl rfl ?_
            refine jx_le (pl' := [some (.ref o), some (.int v1), some (.int v2), some (.int v3), some (.int v4), some (.int v5), some (.int v6), none]) (jle_v (jle_v (jle_v (jle_v (jle_v (jle_v (jle_v (jle_n jle_nil)))))))) ?_
            exact kM_feed_l28_j81 hT ho hd K HL HE0
          · replace K := (if_neg hc9).symm.trans K
            refine jx_next (pc := 79) (pc' := 81) rfl rfl ?_
            refine jx_le (pl' := [some (.ref o), some (.int v1), some (.int v2), some (.int v3), some (.int v4), some (.int v5), some (.int v6), none]) (jle_v (jle_v (jle_v (jle_v (jle_v (jle_v (jle_v (jle_n jle_nil)))))))) ?_
            exact kM_feed_l28_j81 hT ho hd K HL HE0
  · replace K := (if_neg hc4).symm.trans K
    obtain rfl := Option.some.inj K
    refine jx_le (pl' := [some (.ref o), none, none, none, none, none, none, none]) (jle_v (jle_n (jle_n (jle_n (jle_n (jle_n (jle_n (jle_n jle_nil)))))))) ?_
    exact HE0 _ rfl
theorem kM_feed_l28_w {X : jX} {d : Nat} {R : jR} {Q : Option Value → jS → Prop} {o : Nat} {v1 : Int32} {v2 : Int32} {v3 : Int32} {v4 : Int32} {v5 : Int32} (hT : jTy R) (ho : jcl 176 o = 12) (hd : 0 ≤ d) {s : Int32 × jH} {x : jH} (K : jlim (fM_feed_l28 R o v1 v2 v3 v4 v5) s = some x) (HE : jEx X d jc_188 124 [some (.ref o), none, none, none, none, none, none, none] [] (176, R, x) Q) :
    jEx X d jc_188 28 [some (.ref o), some (.int v1), some (.int v2), some (.int v3), some (.int v4), some (.int v5), some (.int s.1), none] [] (176, R, s.2) Q := by
  refine jlim_ok (G := fun s : Int32 × jH => jEx X d jc_188 28 [some (.ref o), some (.int v1), some (.int v2), some (.int v3), some (.int v4), some (.int v5), some (.int s.1), none] [] (176, R, s.2) Q) (GX := fun x : jH => jEx X d jc_188 124 [some (.ref o), none, none, none, none, none, none, none] [] (176, R, x) Q) (fun s z hz HL HE => ?_) K HE
  exact kM_feed_l28_b hT ho hd hz HL HE
/-- AndGuestModel.feed(IIIII)I -/
noncomputable def fM_feed (R : jR) (o : Nat) (v1 : Int32) (v2 : Int32) (v3 : Int32) (v4 : Int32) (v5 : Int32) (h : jH) : Option (Int32 × jH) :=
  (if 1600 < ((h.1 o 1) + 20) then
  (if jin 0 (jsh (R o 9)).2 then
  (if jin 0 (jsh (R o 9)).2 then
  some ((-1), jhI h (R o 9) (0 : Int32).toNatClampNeg ((h.1 (R o 9) (0 : Int32).toNatClampNeg) + 1))
  else none)
  else none)
  else
  (Option.bind (jlim (fM_feed_l28 R o v1 v2 v3 v4 v5) (0, h)) (fun (x10 : jH) =>
  some (x10.1 o 1, x10))))
theorem kM_feed {X : jX} {d : Nat} {R : jR} {Q : Option Value → jS → Prop} {o : Nat} {v1 : Int32} {v2 : Int32} {v3 : Int32} {v4 : Int32} {v5 : Int32} {h : jH} (hT : jTy R) (ho : jcl 176 o = 12) (hd : 0 ≤ d) {z : Int32 × jH} (K : fM_feed R o v1 v2 v3 v4 v5 h = some z) (HQ : Q (some (.int z.1)) (176, R, z.2)) :
    jCa X d 188 [.ref o, .int v1, .int v2, .int v3, .int v4, .int v5] (176, R, h) Q := by
  unfold fM_feed at K
  refine jCa_of (es := jc_188) (pl := [some (.ref o), some (.int v1), some (.int v2), some (.int v3), some (.int v4), some (.int v5), none, none]) (M := jm_188) rfl rfl rfl rfl ?_
  refine jx_next (pc := 0) (pc' := 1) rfl rfl ?_
  refine jx_geti (pc := 1) rfl ho ?_
  refine jx_next (pc := 4) (pc' := 6) rfl rfl ?_
  refine jx_next (pc := 6) (pc' := 7) rfl rfl ?_
  refine jx_next (pc := 7) (pc' := 10) rfl rfl ?_
  refine jx_icle (pc := 10) rfl (fun hc1 => ?_) (fun hc1 => ?_)
  · replace K := (if_pos hc1).symm.trans K
    refine jx_next (pc := 13) (pc' := 14) rfl rfl ?_
    refine jx_getr (pc := 14) rfl ho ?_
    refine jx_next (pc := 17) (pc' := 18) rfl rfl ?_
    refine jx_next (pc := 18) (pc' := 19) rfl rfl ?_
    obtain ⟨hg2, K⟩ := jguard K
    refine jx_iald (pc := 19) rfl (jtR hT ho (k := 9) (c := 20) rfl) hg2 ?_
    refine jx_next (pc := 20) (pc' := 21) rfl rfl ?_
    refine jx_next (pc := 21) (pc' := 22) rfl rfl ?_
    obtain ⟨hg3, K⟩ := jguard K
    refine jx_iast (pc := 22) rfl (jtR hT ho (k := 9) (c := 20) rfl) hg3 ?_
    refine jx_next (pc := 23) (pc' := 24) rfl rfl ?_
    obtain rfl := Option.some.inj K
    exact jx_iret (pc := 24) rfl HQ
  · replace K := (if_neg hc1).symm.trans K
    refine jx_next (pc := 25) (pc' := 26) rfl rfl ?_
    refine jx_sti (pc := 26) (p2 := [some (.ref o), some (.int v1), some (.int v2), some (.int v3), some (.int v4), some (.int v5), some (.int 0), none]) rfl (jlt rfl) rfl ?_
    refine jx_le (pl' := [some (.ref o), some (.int v1), some (.int v2), some (.int v3), some (.int v4), some (.int v5), some (.int 0), none]) (jle_v (jle_v (jle_v (jle_v (jle_v (jle_v (jle_v (jle_n jle_nil)))))))) ?_
    obtain ⟨x10, hz_x10, K⟩ := Option.bind_eq_some_iff.mp K
    refine kM_feed_l28_w hT ho hd hz_x10 ?_
    refine jx_next (pc := 124) (pc' := 125) rfl rfl ?_
    refine jx_geti (pc := 125) rfl ho ?_
    obtain rfl := Option.some.inj K
    exact jx_iret (pc := 128) rfl HQ
noncomputable def fM_end_j12 (R : jR) (o : Nat) (h : jH) : Option (Int32 × jH) :=
  (if jin 0 (jsh (R o 9)).2 then
  (if jin 0 (jsh (R o 9)).2 then
  some (0, jhI h (R o 9) (0 : Int32).toNatClampNeg ((h.1 (R o 9) (0 : Int32).toNatClampNeg) + 1))
  else none)
  else none)
theorem kM_end_j12 {X : jX} {d : Nat} {R : jR} {Q : Option Value → jS → Prop} {o : Nat} {h : jH} (hT : jTy R) (ho : jcl 176 o = 12) (hd : 0 ≤ d) {z : Int32 × jH} (K : fM_end_j12 R o h = some z) (HQ : Q (some (.int z.1)) (176, R, z.2)) :
    jEx X d jc_189 12 [some (.ref o), none] [] (176, R, h) Q := by
  unfold fM_end_j12 at K
  refine jx_next (pc := 12) (pc' := 13) rfl rfl ?_
  refine jx_getr (pc := 13) rfl ho ?_
  refine jx_next (pc := 16) (pc' := 17) rfl rfl ?_
  refine jx_next (pc := 17) (pc' := 18) rfl rfl ?_
  obtain ⟨hg2, K⟩ := jguard K
  refine jx_iald (pc := 18) rfl (jtR hT ho (k := 9) (c := 20) rfl) hg2 ?_
  refine jx_next (pc := 19) (pc' := 20) rfl rfl ?_
  refine jx_next (pc := 20) (pc' := 21) rfl rfl ?_
  obtain ⟨hg3, K⟩ := jguard K
  refine jx_iast (pc := 21) rfl (jtR hT ho (k := 9) (c := 20) rfl) hg3 ?_
  refine jx_next (pc := 22) (pc' := 23) rfl rfl ?_
  obtain rfl := Option.some.inj K
  exact jx_zret (pc := 23) rfl (Or.inl rfl) HQ
/-- AndGuestModel.end(I)Z -/
noncomputable def fM_end (R : jR) (o : Nat) (v1 : Int32) (h : jH) : Option (Int32 × jH) :=
  (if v1 < 0 then
  fM_end_j12 R o h
  else
  (if (h.1 o 1) < v1 then
  fM_end_j12 R o h
  else
  some (1, jhI h o 1 v1)))
theorem kM_end {X : jX} {d : Nat} {R : jR} {Q : Option Value → jS → Prop} {o : Nat} {v1 : Int32} {h : jH} (hT : jTy R) (ho : jcl 176 o = 12) (hd : 0 ≤ d) {z : Int32 × jH} (K : fM_end R o v1 h = some z) (HQ : Q (some (.int z.1)) (176, R, z.2)) :
    jCa X d 189 [.ref o, .int v1] (176, R, h) Q := by
  unfold fM_end at K
  refine jCa_of (es := jc_189) (pl := [some (.ref o), some (.int v1)]) (M := jm_189) rfl rfl rfl rfl ?_
  refine jx_next (pc := 0) (pc' := 1) rfl rfl ?_
  refine jx_iflt (pc := 1) rfl (fun hc1 => ?_) (fun hc1 => ?_)
  · replace K := (if_pos hc1).symm.trans K
    refine jx_le (pl' := [some (.ref o), none]) (jle_v (jle_n jle_nil)) ?_
    exact kM_end_j12 hT ho hd K HQ
  · replace K := (if_neg hc1).symm.trans K
    refine jx_next (pc := 4) (pc' := 5) rfl rfl ?_
    refine jx_next (pc := 5) (pc' := 6) rfl rfl ?_
    refine jx_geti (pc := 6) rfl ho ?_
    refine jx_icle (pc := 9) rfl (fun hc4 => ?_) (fun hc4 => ?_)
    · replace K := (if_pos hc4).symm.trans K
      refine jx_le (pl' := [some (.ref o), none]) (jle_v (jle_n jle_nil)) ?_
      exact kM_end_j12 hT ho hd K HQ
    · replace K := (if_neg hc4).symm.trans K
      refine jx_next (pc := 24) (pc' := 25) rfl rfl ?_
      refine jx_next (pc := 25) (pc' := 26) rfl rfl ?_
      refine jx_puti (pc := 26) rfl ho ?_
      refine jx_next (pc := 29) (pc' := 30) rfl rfl ?_
      obtain rfl := Option.some.inj K
      exact jx_zret (pc := 30) rfl (Or.inr rfl) HQ
noncomputable def fM_look_l0_j39 (R : jR) (o : Nat) (h : jH) : Option ((jH) ⊕ (jH)) :=
  some (.inl (jhI h o 2 ((h.1 o 2) + 1)))
theorem kM_look_l0_j39 {X : jX} {d : Nat} {R : jR} {Q : Option Value → jS → Prop} {o : Nat} {h : jH} (hT : jTy R) (ho : jcl 176 o = 12) (hd : 0 ≤ d) {z : (jH) ⊕ (jH)} (K : fM_look_l0_j39 R o h = some z) (HL : ∀ s : jH, z = .inl s → jEx X d jc_195 0 [some (.ref o)] [] (176, R, s) Q) (HE0 : ∀ x : jH, z = .inr x → jEx X d jc_195 52 [some (.ref o)] [] (176, R, x) Q) :
    jEx X d jc_195 39 [some (.ref o)] [] (176, R, h) Q := by
  unfold fM_look_l0_j39 at K
  refine jx_next (pc := 39) (pc' := 40) rfl rfl ?_
  refine jx_next (pc := 40) (pc' := 41) rfl rfl ?_
  refine jx_geti (pc := 41) rfl ho ?_
  refine jx_next (pc := 44) (pc' := 45) rfl rfl ?_
  refine jx_next (pc := 45) (pc' := 46) rfl rfl ?_
  refine jx_puti (pc := 46) rfl ho ?_
  refine jx_next (pc := 49) (pc' := 0) rfl rfl ?_
  obtain rfl := Option.some.inj K
  refine jx_le (pl' := [some (.ref o)]) (jle_v jle_nil) ?_
  exact HL _ rfl
noncomputable def fM_look_l0_b (R : jR) (o : Nat) (h : jH) : Option ((jH) ⊕ (jH)) :=
  (if (h.1 o 2) < (h.1 o 3) then
  (if jin (h.1 o 2) (jsh (R o 0)).2 then
  (if (h.1 (R o 0) (h.1 o 2).toNatClampNeg) = 10 then
  fM_look_l0_j39 R o h
  else
  (if jin (h.1 o 2) (jsh (R o 0)).2 then
  (if (h.1 (R o 0) (h.1 o 2).toNatClampNeg) = 32 then
  fM_look_l0_j39 R o h
  else
  some (.inr h))
  else none))
  else none)
  else
  some (.inr h))
noncomputable def fM_look_l0 (R : jR) (o : Nat) : jH → Option ((jH) ⊕ (jH)) :=
  fun (s : jH) => fM_look_l0_b R o s
theorem kM_look_l0_b {X : jX} {d : Nat} {R : jR} {Q : Option Value → jS → Prop} {o : Nat} {h : jH} (hT : jTy R) (ho : jcl 176 o = 12) (hd : 0 ≤ d) {z : (jH) ⊕ (jH)} (K : fM_look_l0_b R o h = some z) (HL : ∀ s : jH, z = .inl s → jEx X d jc_195 0 [some (.ref o)] [] (176, R, s) Q) (HE0 : ∀ x : jH, z = .inr x → jEx X d jc_195 52 [some (.ref o)] [] (176, R, x) Q) :
    jEx X d jc_195 0 [some (.ref o)] [] (176, R, h) Q := by
  unfold fM_look_l0_b at K
  refine jx_next (pc := 0) (pc' := 1) rfl rfl ?_
  refine jx_geti (pc := 1) rfl ho ?_
  refine jx_next (pc := 4) (pc' := 5) rfl rfl ?_
  refine jx_geti (pc := 5) rfl ho ?_
  refine jx_icge (pc := 8) rfl (fun hc1 => ?_) (fun hc1 => ?_)
  · replace K := (if_pos hc1).symm.trans K
    refine jx_next (pc := 11) (pc' := 12) rfl rfl ?_
    refine jx_getr (pc := 12) rfl ho ?_
    refine jx_next (pc := 15) (pc' := 16) rfl rfl ?_
    refine jx_geti (pc := 16) rfl ho ?_
    obtain ⟨hg2, K⟩ := jguard K
    refine jx_iald (pc := 19) rfl (jtR hT ho (k := 0) (c := 20) rfl) hg2 ?_
    refine jx_next (pc := 20) (pc' := 22) rfl rfl ?_
    refine jx_iceq (pc := 22) rfl (fun hc3 => ?_) (fun hc3 => ?_)
    · replace K := (if_pos hc3).symm.trans K
      refine jx_le (pl' := [some (.ref o)]) (jle_v jle_nil) ?_
      exact kM_look_l0_j39 hT ho hd K HL HE0
    · replace K := (if_neg hc3).symm.trans K
      refine jx_next (pc := 25) (pc' := 26) rfl rfl ?_
      refine jx_getr (pc := 26) rfl ho ?_
      refine jx_next (pc := 29) (pc' := 30) rfl rfl ?_
      refine jx_geti (pc := 30) rfl ho ?_
      obtain ⟨hg4, K⟩ := jguard K
      refine jx_iald (pc := 33) rfl (jtR hT ho (k := 0) (c := 20) rfl) hg4 ?_
      refine jx_next (pc := 34) (pc' := 36) rfl rfl ?_
      refine jx_icne (pc := 36) rfl (fun hc5 => ?_) (fun hc5 => ?_)
      · replace K := (if_pos hc5).symm.trans K
        refine jx_le (pl' := [some (.ref o)]) (jle_v jle_nil) ?_
        exact kM_look_l0_j39 hT ho hd K HL HE0
      · replace K := (if_neg hc5).symm.trans K
        obtain rfl := Option.some.inj K
        refine jx_le (pl' := [some (.ref o)]) (jle_v jle_nil) ?_
        exact HE0 _ rfl
  · replace K := (if_neg hc1).symm.trans K
    obtain rfl := Option.some.inj K
    refine jx_le (pl' := [some (.ref o)]) (jle_v jle_nil) ?_
    exact HE0 _ rfl
theorem kM_look_l0_w {X : jX} {d : Nat} {R : jR} {Q : Option Value → jS → Prop} {o : Nat} (hT : jTy R) (ho : jcl 176 o = 12) (hd : 0 ≤ d) {s : jH} {x : jH} (K : jlim (fM_look_l0 R o) s = some x) (HE : jEx X d jc_195 52 [some (.ref o)] [] (176, R, x) Q) :
    jEx X d jc_195 0 [some (.ref o)] [] (176, R, s) Q := by
  refine jlim_ok (G := fun s : jH => jEx X d jc_195 0 [some (.ref o)] [] (176, R, s) Q) (GX := fun x : jH => jEx X d jc_195 52 [some (.ref o)] [] (176, R, x) Q) (fun s z hz HL HE => ?_) K HE
  exact kM_look_l0_b hT ho hd hz HL HE
/-- AndGuestModel.look()I -/
noncomputable def fM_look (R : jR) (o : Nat) (h : jH) : Option (Int32 × jH) :=
  (Option.bind (jlim (fM_look_l0 R o) h) (fun (x6 : jH) =>
  (if (x6.1 o 2) < (x6.1 o 3) then
  (if jin (x6.1 o 2) (jsh (R o 0)).2 then
  some (x6.1 (R o 0) (x6.1 o 2).toNatClampNeg, x6)
  else none)
  else
  some ((-1), x6))))
theorem kM_look {X : jX} {d : Nat} {R : jR} {Q : Option Value → jS → Prop} {o : Nat} {h : jH} (hT : jTy R) (ho : jcl 176 o = 12) (hd : 0 ≤ d) {z : Int32 × jH} (K : fM_look R o h = some z) (HQ : Q (some (.int z.1)) (176, R, z.2)) :
    jCa X d 195 [.ref o] (176, R, h) Q := by
  unfold fM_look at K
  refine jCa_of (es := jc_195) (pl := [some (.ref o)]) (M := jm_195) rfl rfl rfl rfl ?_
  refine jx_le (pl' := [some (.ref o)]) (jle_v jle_nil) ?_
  obtain ⟨x6, hz_x6, K⟩ := Option.bind_eq_some_iff.mp K
  refine kM_look_l0_w hT ho hd hz_x6 ?_
  refine jx_next (pc := 52) (pc' := 53) rfl rfl ?_
  refine jx_geti (pc := 53) rfl ho ?_
  refine jx_next (pc := 56) (pc' := 57) rfl rfl ?_
  refine jx_geti (pc := 57) rfl ho ?_
  refine jx_icge (pc := 60) rfl (fun hc7 => ?_) (fun hc7 => ?_)
  · replace K := (if_pos hc7).symm.trans K
    refine jx_next (pc := 63) (pc' := 64) rfl rfl ?_
    refine jx_getr (pc := 64) rfl ho ?_
    refine jx_next (pc := 67) (pc' := 68) rfl rfl ?_
    refine jx_geti (pc := 68) rfl ho ?_
    obtain ⟨hg8, K⟩ := jguard K
    refine jx_iald (pc := 71) rfl (jtR hT ho (k := 0) (c := 20) rfl) hg8 ?_
    refine jx_next (pc := 72) (pc' := 76) rfl rfl ?_
    obtain rfl := Option.some.inj K
    exact jx_iret (pc := 76) rfl HQ
  · replace K := (if_neg hc7).symm.trans K
    refine jx_next (pc := 75) (pc' := 76) rfl rfl ?_
    obtain rfl := Option.some.inj K
    exact jx_iret (pc := 76) rfl HQ
/-- AndGuestModel.isLetter(I)Z -/
noncomputable def fM_isLetter (v0 : Int32) : Int32 :=
  (if v0 < 97 then
  (0 : Int32)
  else
  (if 122 < v0 then
  (0 : Int32)
  else
  (1 : Int32)))
theorem kM_isLetter {X : jX} {d : Nat} {R : jR} {Q : Option Value → jS → Prop} {v0 : Int32} {h : jH}  (hd : 0 ≤ d) {z : Int32} (K : fM_isLetter v0 = z) (HQ : Q (some (.int z)) (176, R, h)) :
    jCa X d 196 [.int v0] (176, R, h) Q := by
  unfold fM_isLetter at K
  refine jCa_of (es := jc_196) (pl := [some (.int v0)]) (M := jm_196) rfl rfl rfl rfl ?_
  refine jx_next (pc := 0) (pc' := 1) rfl rfl ?_
  refine jx_next (pc := 1) (pc' := 3) rfl rfl ?_
  refine jx_iclt (pc := 3) rfl (fun hc1 => ?_) (fun hc1 => ?_)
  · replace K := (if_pos hc1).symm.trans K
    refine jx_next (pc := 16) (pc' := 17) rfl rfl ?_
    obtain rfl := K
    exact jx_zret (pc := 17) rfl (Or.inl rfl) HQ
  · replace K := (if_neg hc1).symm.trans K
    refine jx_next (pc := 6) (pc' := 7) rfl rfl ?_
    refine jx_next (pc := 7) (pc' := 9) rfl rfl ?_
    refine jx_icgt (pc := 9) rfl (fun hc2 => ?_) (fun hc2 => ?_)
    · replace K := (if_pos hc2).symm.trans K
      refine jx_next (pc := 16) (pc' := 17) rfl rfl ?_
      obtain rfl := K
      exact jx_zret (pc := 17) rfl (Or.inl rfl) HQ
    · replace K := (if_neg hc2).symm.trans K
      refine jx_next (pc := 12) (pc' := 13) rfl rfl ?_
      refine jx_next (pc := 13) (pc' := 17) rfl rfl ?_
      obtain rfl := K
      exact jx_zret (pc := 17) rfl (Or.inr rfl) HQ
noncomputable def fM_isHere_l35_b (R : jR) (o : Nat) (v1 : Nat) (v2 : Int32) (h : jH) : Option ((Int32) ⊕ (Int32)) :=
  (if v2 < (h.1 o 3) then
  (if jin v2 (jsh (R o 0)).2 then
  (if (fM_isLetter (h.1 (R o 0) v2.toNatClampNeg)) = 0 then
  some (.inr v2)
  else
  some (.inl (v2 + 1)))
  else none)
  else
  some (.inr v2))
noncomputable def fM_isHere_l35 (R : jR) (o : Nat) (v1 : Nat) (h : jH) : Int32 → Option ((Int32) ⊕ (Int32)) :=
  fun (s : Int32) => fM_isHere_l35_b R o v1 s h
theorem kM_isHere_l35_b {X : jX} {d : Nat} {R : jR} {Q : Option Value → jS → Prop} {o : Nat} {v1 : Nat} {v2 : Int32} {h : jH} (hT : jTy R) (ho : jcl 176 o = 12) (hv1 : jcl 176 v1 = 22) (hd : 1 ≤ (d + 1)) {z : (Int32) ⊕ (Int32)} (K : fM_isHere_l35_b R o v1 v2 h = some z) (HL : ∀ s : Int32, z = .inl s → jEx X (d + 1) jc_194 35 [some (.ref o), some (.ref v1), some (.int s), none] [] (176, R, h) Q) (HE0 : ∀ x : Int32, z = .inr x → jEx X (d + 1) jc_194 61 [some (.ref o), some (.ref v1), some (.int x), none] [] (176, R, h) Q) :
    jEx X (d + 1) jc_194 35 [some (.ref o), some (.ref v1), some (.int v2), none] [] (176, R, h) Q := by
  unfold fM_isHere_l35_b at K
  refine jx_next (pc := 35) (pc' := 36) rfl rfl ?_
  refine jx_next (pc := 36) (pc' := 37) rfl rfl ?_
  refine jx_geti (pc := 37) rfl ho ?_
  refine jx_icge (pc := 40) rfl (fun hc5 => ?_) (fun hc5 => ?_)
  · replace K := (if_pos hc5).symm.trans K
    refine jx_next (pc := 43) (pc' := 44) rfl rfl ?_
    refine jx_getr (pc := 44) rfl ho ?_
    refine jx_next (pc := 47) (pc' := 48) rfl rfl ?_
    obtain ⟨hg6, K⟩ := jguard K
    refine jx_iald (pc := 48) rfl (jtR hT ho (k := 0) (c := 20) rfl) hg6 ?_
    refine jx_calls (pc := 49) rfl (Nat.le_of_ble_eq_true rfl) (Nat.le_of_ble_eq_true rfl) ?_
    refine kM_isLetter  (by omega) rfl ?_
    refine jx_ifeq (pc := 52) rfl (fun hc7 => ?_) (fun hc7 => ?_)
    · replace K := (if_pos hc7).symm.trans K
      obtain rfl := Option.some.inj K
      refine jx_le (pl' := [some (.ref o), some (.ref v1), some (.int v2), none]) (jle_v (jle_v (jle_v (jle_n jle_nil)))) ?_
      exact HE0 _ rfl
    · replace K := (if_neg hc7).symm.trans K
      refine jx_inc (pc := 55) (x := v2) (p2 := [some (.ref o), some (.ref v1), some (.int (v2 + 1)), none]) rfl rfl (jlt rfl) rfl ?_
      refine jx_next (pc := 58) (pc' := 35) rfl rfl ?_
      obtain rfl := Option.some.inj K
      refine jx_le (pl' := [some (.ref o), some (.ref v1), some (.int (v2 + 1)), none]) (jle_v (jle_v (jle_v (jle_n jle_nil)))) ?_
      exact HL _ rfl
  · replace K := (if_neg hc5).symm.trans K
    obtain rfl := Option.some.inj K
    refine jx_le (pl' := [some (.ref o), some (.ref v1), some (.int v2), none]) (jle_v (jle_v (jle_v (jle_n jle_nil)))) ?_
    exact HE0 _ rfl
theorem kM_isHere_l35_w {X : jX} {d : Nat} {R : jR} {Q : Option Value → jS → Prop} {o : Nat} {v1 : Nat} {h : jH} (hT : jTy R) (ho : jcl 176 o = 12) (hv1 : jcl 176 v1 = 22) (hd : 1 ≤ (d + 1)) {s : Int32} {x : Int32} (K : jlim (fM_isHere_l35 R o v1 h) s = some x) (HE : jEx X (d + 1) jc_194 61 [some (.ref o), some (.ref v1), some (.int x), none] [] (176, R, h) Q) :
    jEx X (d + 1) jc_194 35 [some (.ref o), some (.ref v1), some (.int s), none] [] (176, R, h) Q := by
  refine jlim_ok (G := fun s : Int32 => jEx X (d + 1) jc_194 35 [some (.ref o), some (.ref v1), some (.int s), none] [] (176, R, h) Q) (GX := fun x : Int32 => jEx X (d + 1) jc_194 61 [some (.ref o), some (.ref v1), some (.int x), none] [] (176, R, h) Q) (fun s z hz HL HE => ?_) K HE
  exact kM_isHere_l35_b hT ho hv1 hd hz HL HE
noncomputable def fM_isHere_l76_b (R : jR) (o : Nat) (v1 : Nat) (v3 : Int32) (h : jH) : Option ((Int32) ⊕ ((Unit) ⊕ (Unit))) :=
  (if v3 < (Int32.ofNat (jsh v1).2) then
  (if jin ((h.1 o 2) + v3) (jsh (R o 0)).2 then
  (if jin v3 (jsh v1).2 then
  (if (h.1 (R o 0) ((h.1 o 2) + v3).toNatClampNeg) = (h.1 v1 v3.toNatClampNeg) then
  some (.inl (v3 + 1))
  else
  some (.inr (.inl ())))
  else none)
  else none)
  else
  some (.inr (.inr ())))
noncomputable def fM_isHere_l76 (R : jR) (o : Nat) (v1 : Nat) (h : jH) : Int32 → Option ((Int32) ⊕ ((Unit) ⊕ (Unit))) :=
  fun (s : Int32) => fM_isHere_l76_b R o v1 s h
theorem kM_isHere_l76_b {X : jX} {d : Nat} {R : jR} {Q : Option Value → jS → Prop} {o : Nat} {v1 : Nat} {v3 : Int32} {h : jH} (hT : jTy R) (ho : jcl 176 o = 12) (hv1 : jcl 176 v1 = 22) (hd : 1 ≤ (d + 1)) {z : (Int32) ⊕ ((Unit) ⊕ (Unit))} (K : fM_isHere_l76_b R o v1 v3 h = some z) (HL : ∀ s : Int32, z = .inl s → jEx X (d + 1) jc_194 76 [some (.ref o), some (.ref v1), none, some (.int s)] [] (176, R, h) Q) (HE0 : ∀ x : Unit, z = .inr (.inl x) → jEx X (d + 1) jc_194 99 [none, none, none, none] [] (176, R, h) Q) (HE1 : ∀ x : Unit, z = .inr (.inr x) → jEx X (d + 1) jc_194 107 [none, none, none, none] [] (176, R, h) Q) :
    jEx X (d + 1) jc_194 76 [some (.ref o), some (.ref v1), none, some (.int v3)] [] (176, R, h) Q := by
  unfold fM_isHere_l76_b at K
  refine jx_next (pc := 76) (pc' := 77) rfl rfl ?_
  refine jx_next (pc := 77) (pc' := 78) rfl rfl ?_
  refine jx_alen (pc := 78) rfl hv1 ⟨by decide, by decide⟩ ?_
  refine jx_icge (pc := 79) rfl (fun hc10 => ?_) (fun hc10 => ?_)
  · replace K := (if_pos hc10).symm.trans K
    refine jx_next (pc := 82) (pc' := 83) rfl rfl ?_
    refine jx_getr (pc := 83) rfl ho ?_
    refine jx_next (pc := 86) (pc' := 87) rfl rfl ?_
    refine jx_geti (pc := 87) rfl ho ?_
    refine jx_next (pc := 90) (pc' := 91) rfl rfl ?_
    refine jx_next (pc := 91) (pc' := 92) rfl rfl ?_
    obtain ⟨hg11, K⟩ := jguard K
    refine jx_iald (pc := 92) rfl (jtR hT ho (k := 0) (c := 20) rfl) hg11 ?_
    refine jx_next (pc := 93) (pc' := 94) rfl rfl ?_
    refine jx_next (pc := 94) (pc' := 95) rfl rfl ?_
    obtain ⟨hg12, K⟩ := jguard K
    refine jx_cald (pc := 95) rfl hv1 hg12 ?_
    refine jx_iceq (pc := 96) rfl (fun hc13 => ?_) (fun hc13 => ?_)
    · replace K := (if_pos hc13).symm.trans K
      refine jx_inc (pc := 101) (x := v3) (p2 := [some (.ref o), some (.ref v1), none, some (.int (v3 + 1))]) rfl rfl (jlt rfl) rfl ?_
      refine jx_next (pc := 104) (pc' := 76) rfl rfl ?_
      obtain rfl := Option.some.inj K
      refine jx_le (pl' := [some (.ref o), some (.ref v1), none, some (.int (v3 + 1))]) (jle_v (jle_v (jle_n (jle_v jle_nil)))) ?_
      exact HL _ rfl
    · replace K := (if_neg hc13).symm.trans K
      obtain rfl := Option.some.inj K
      refine jx_le (pl' := [none, none, none, none]) (jle_n (jle_n (jle_n (jle_n jle_nil)))) ?_
      exact HE0 _ rfl
  · replace K := (if_neg hc10).symm.trans K
    obtain rfl := Option.some.inj K
    refine jx_le (pl' := [none, none, none, none]) (jle_n (jle_n (jle_n (jle_n jle_nil)))) ?_
    exact HE1 _ rfl
theorem kM_isHere_l76_w {X : jX} {d : Nat} {R : jR} {Q : Option Value → jS → Prop} {o : Nat} {v1 : Nat} {h : jH} (hT : jTy R) (ho : jcl 176 o = 12) (hv1 : jcl 176 v1 = 22) (hd : 1 ≤ (d + 1)) {s : Int32} {x : (Unit) ⊕ (Unit)} (K : jlim (fM_isHere_l76 R o v1 h) s = some x) (HE0 : ∀ x0 : Unit, x = .inl x0 → jEx X (d + 1) jc_194 99 [none, none, none, none] [] (176, R, h) Q) (HE1 : ∀ x0 : Unit, x = .inr x0 → jEx X (d + 1) jc_194 107 [none, none, none, none] [] (176, R, h) Q) :
    jEx X (d + 1) jc_194 76 [some (.ref o), some (.ref v1), none, some (.int s)] [] (176, R, h) Q := by
  refine jlim_ok (G := fun s : Int32 => jEx X (d + 1) jc_194 76 [some (.ref o), some (.ref v1), none, some (.int s)] [] (176, R, h) Q) (GX := fun x : (Unit) ⊕ (Unit) => (∀ x0 : Unit, x = .inl x0 → jEx X (d + 1) jc_194 99 [none, none, none, none] [] (176, R, h) Q) ∧ (∀ x0 : Unit, x = .inr x0 → jEx X (d + 1) jc_194 107 [none, none, none, none] [] (176, R, h) Q)) (fun s z hz HL HE => ?_) K ⟨HE0, HE1⟩
  exact kM_isHere_l76_b hT ho hv1 hd hz HL (fun x hx => (HE _ hx).1 x rfl) (fun x hx => (HE _ hx).2 x rfl)
/-- AndGuestModel.isHere([C)Z -/
noncomputable def fM_isHere (R : jR) (o : Nat) (v1 : Nat) (h : jH) : Option (Int32 × jH) :=
  (if (h.1 o 5) = 0 then
  (Option.bind (fM_look R o h) (fun (z2 : Int32 × jH) =>
  (if (fM_isLetter z2.1) = 0 then
  some (0, z2.2)
  else
  (if (z2.2.1 o 2) = (z2.2.1 o 4) then
  some (0, z2.2)
  else
  (Option.bind (jlim (fM_isHere_l35 R o v1 z2.2) (z2.2.1 o 2)) (fun (x8 : Int32) =>
  (if (x8 - (z2.2.1 o 2)) = (Int32.ofNat (jsh v1).2) then
  (Option.bind (jlim (fM_isHere_l76 R o v1 z2.2) 0) (fun (x14 : (Unit) ⊕ (Unit)) => Sum.elim (fun (y14 : Unit) =>
  some (0, z2.2)) (fun (y14 : Unit) =>
  some (1, z2.2)) x14))
  else
  some (0, z2.2))))))))
  else
  some (0, h))
theorem kM_isHere {X : jX} {d : Nat} {R : jR} {Q : Option Value → jS → Prop} {o : Nat} {v1 : Nat} {h : jH} (hT : jTy R) (ho : jcl 176 o = 12) (hv1 : jcl 176 v1 = 22) (hd : 1 ≤ d) {z : Int32 × jH} (K : fM_isHere R o v1 h = some z) (HQ : Q (some (.int z.1)) (176, R, z.2)) :
    jCa X d 194 [.ref o, .ref v1] (176, R, h) Q := by
  obtain ⟨d, rfl⟩ : ∃ d9, d = d9 + 1 := ⟨d - 1, by omega⟩
  unfold fM_isHere at K
  refine jCa_of (es := jc_194) (pl := [some (.ref o), some (.ref v1), none, none]) (M := jm_194) rfl rfl rfl rfl ?_
  refine jx_next (pc := 0) (pc' := 1) rfl rfl ?_
  refine jx_geti (pc := 1) rfl ho ?_
  refine jx_ifne (pc := 4) rfl (fun hc1 => ?_) (fun hc1 => ?_)
  · replace K := (if_pos hc1).symm.trans K
    refine jx_next (pc := 7) (pc' := 8) rfl rfl ?_
    refine jx_callv (pc := 8) (o := o) (rest := []) rfl ⟨by decide, by decide⟩ rfl ho (Nat.le_of_ble_eq_true rfl) ?_
    obtain ⟨z2, hz_z2, K⟩ := Option.bind_eq_some_iff.mp K
    refine kM_look hT ho (by omega) hz_z2 ?_
    refine jx_calls (pc := 11) rfl (Nat.le_of_ble_eq_true rfl) (Nat.le_of_ble_eq_true rfl) ?_
    refine kM_isLetter  (by omega) rfl ?_
    refine jx_ifeq (pc := 14) rfl (fun hc3 => ?_) (fun hc3 => ?_)
    · replace K := (if_pos hc3).symm.trans K
      refine jx_next (pc := 28) (pc' := 29) rfl rfl ?_
      obtain rfl := Option.some.inj K
      exact jx_zret (pc := 29) rfl (Or.inl rfl) HQ
    · replace K := (if_neg hc3).symm.trans K
      refine jx_next (pc := 17) (pc' := 18) rfl rfl ?_
      refine jx_geti (pc := 18) rfl ho ?_
      refine jx_next (pc := 21) (pc' := 22) rfl rfl ?_
      refine jx_geti (pc := 22) rfl ho ?_
      refine jx_icne (pc := 25) rfl (fun hc4 => ?_) (fun hc4 => ?_)
      · replace K := (if_pos hc4).symm.trans K
        refine jx_next (pc := 28) (pc' := 29) rfl rfl ?_
        obtain rfl := Option.some.inj K
        exact jx_zret (pc := 29) rfl (Or.inl rfl) HQ
      · replace K := (if_neg hc4).symm.trans K
        refine jx_next (pc := 30) (pc' := 31) rfl rfl ?_
        refine jx_geti (pc := 31) rfl ho ?_
        refine jx_stin (pc := 34) (p2 := [some (.ref o), some (.ref v1), some (.int (z2.2.1 o 2)), none]) rfl (jlt rfl) rfl ?_
        refine jx_le (pl' := [some (.ref o), some (.ref v1), some (.int (z2.2.1 o 2)), none]) (jle_v (jle_v (jle_v (jle_n jle_nil)))) ?_
        obtain ⟨x8, hz_x8, K⟩ := Option.bind_eq_some_iff.mp K
        refine kM_isHere_l35_w hT ho hv1 hd hz_x8 ?_
        refine jx_next (pc := 61) (pc' := 62) rfl rfl ?_
        refine jx_next (pc := 62) (pc' := 63) rfl rfl ?_
        refine jx_geti (pc := 63) rfl ho ?_
        refine jx_next (pc := 66) (pc' := 67) rfl rfl ?_
        refine jx_next (pc := 67) (pc' := 68) rfl rfl ?_
        refine jx_alen (pc := 68) rfl hv1 ⟨by decide, by decide⟩ ?_
        refine jx_iceq (pc := 69) rfl (fun hc9 => ?_) (fun hc9 => ?_)
        · replace K := (if_pos hc9).symm.trans K
          refine jx_next (pc := 74) (pc' := 75) rfl rfl ?_
          refine jx_stin (pc := 75) (p2 := [some (.ref o), some (.ref v1), some (.int x8), some (.int 0)]) rfl (jlt rfl) rfl ?_
          refine jx_le (pl' := [some (.ref o), some (.ref v1), none, some (.int 0)]) (jle_v (jle_v (jle_n (jle_v jle_nil)))) ?_
          obtain ⟨x14, hz_x14, K⟩ := Option.bind_eq_some_iff.mp K
          refine kM_isHere_l76_w hT ho hv1 hd hz_x14 (fun y14 hx9 => ?_) (fun y14 hx9 => ?_)
          · subst hx9
            refine jx_next (pc := 99) (pc' := 100) rfl rfl ?_
            obtain rfl := Option.some.inj K
            exact jx_zret (pc := 100) rfl (Or.inl rfl) HQ
          · subst hx9
            refine jx_next (pc := 107) (pc' := 108) rfl rfl ?_
            obtain rfl := Option.some.inj K
            exact jx_zret (pc := 108) rfl (Or.inr rfl) HQ
        · replace K := (if_neg hc9).symm.trans K
          refine jx_next (pc := 72) (pc' := 73) rfl rfl ?_
          obtain rfl := Option.some.inj K
          exact jx_zret (pc := 73) rfl (Or.inl rfl) HQ
  · replace K := (if_neg hc1).symm.trans K
    refine jx_next (pc := 28) (pc' := 29) rfl rfl ?_
    obtain rfl := Option.some.inj K
    exact jx_zret (pc := 29) rfl (Or.inl rfl) HQ
