/-- AndGuestModel.takes([C)Z -/
noncomputable def fM_takes (R : jR) (o : Nat) (v1 : Nat) (h : jH) : Option (Int32 × jH) :=
  (Option.bind (fM_isHere R o v1 h) (fun (z1 : Int32 × jH) =>
  (if z1.1 = 0 then
  some (0, z1.2)
  else
  some (1, jhI (jhI z1.2 o 2 ((z1.2.1 o 2) + (Int32.ofNat (jsh v1).2))) o 4 ((jhI z1.2 o 2 ((z1.2.1 o 2) + (Int32.ofNat (jsh v1).2))).1 o 2)))))
theorem kM_takes {X : jX} {d : Nat} {R : jR} {Q : Option Value → jS → Prop} {o : Nat} {v1 : Nat} {h : jH} (hT : jTy R) (ho : jcl 176 o = 12) (hv1 : jcl 176 v1 = 22) (hd : 2 ≤ d) {z : Int32 × jH} (K : fM_takes R o v1 h = some z) (HQ : Q (some (.int z.1)) (176, R, z.2)) :
    jCa X d 193 [.ref o, .ref v1] (176, R, h) Q := by
  obtain ⟨d, rfl⟩ : ∃ d9, d = d9 + 1 := ⟨d - 1, by omega⟩
  unfold fM_takes at K
  refine jCa_of (es := jc_193) (pl := [some (.ref o), some (.ref v1)]) (M := jm_193) rfl rfl rfl rfl ?_
  refine jx_next (pc := 0) (pc' := 1) rfl rfl ?_
  refine jx_next (pc := 1) (pc' := 2) rfl rfl ?_
  refine jx_callv (pc := 2) (o := o) (rest := []) rfl ⟨by decide, by decide⟩ rfl ho (Nat.le_of_ble_eq_true rfl) ?_
  obtain ⟨z1, hz_z1, K⟩ := Option.bind_eq_some_iff.mp K
  refine kM_isHere hT ho hv1 (by omega) hz_z1 ?_
  refine jx_ifne (pc := 5) rfl (fun hc2 => ?_) (fun hc2 => ?_)
  · replace K := (if_pos hc2).symm.trans K
    refine jx_next (pc := 8) (pc' := 9) rfl rfl ?_
    obtain rfl := Option.some.inj K
    exact jx_zret (pc := 9) rfl (Or.inl rfl) HQ
  · replace K := (if_neg hc2).symm.trans K
    refine jx_next (pc := 10) (pc' := 11) rfl rfl ?_
    refine jx_next (pc := 11) (pc' := 12) rfl rfl ?_
    refine jx_geti (pc := 12) rfl ho ?_
    refine jx_next (pc := 15) (pc' := 16) rfl rfl ?_
    refine jx_alen (pc := 16) rfl hv1 ⟨by decide, by decide⟩ ?_
    refine jx_next (pc := 17) (pc' := 18) rfl rfl ?_
    refine jx_puti (pc := 18) rfl ho ?_
    refine jx_next (pc := 21) (pc' := 22) rfl rfl ?_
    refine jx_next (pc := 22) (pc' := 23) rfl rfl ?_
    refine jx_geti (pc := 23) rfl ho ?_
    refine jx_puti (pc := 26) rfl ho ?_
    refine jx_next (pc := 29) (pc' := 30) rfl rfl ?_
    obtain rfl := Option.some.inj K
    exact jx_zret (pc := 30) rfl (Or.inr rfl) HQ
/-- AndGuestModel.fail(II)V -/
noncomputable def fM_fail (R : jR) (o : Nat) (v1 : Int32) (v2 : Int32) (h : jH) : jH :=
  (if (h.1 o 5) = 0 then
  jhI (jhI h o 5 v1) o 6 v2
  else
  h)
theorem kM_fail {X : jX} {d : Nat} {R : jR} {Q : Option Value → jS → Prop} {o : Nat} {v1 : Int32} {v2 : Int32} {h : jH} (hT : jTy R) (ho : jcl 176 o = 12) (hd : 0 ≤ d) {z : jH} (K : fM_fail R o v1 v2 h = z) (HQ : Q none (176, R, z)) :
    jCa X d 197 [.ref o, .int v1, .int v2] (176, R, h) Q := by
  unfold fM_fail at K
  refine jCa_of (es := jc_197) (pl := [some (.ref o), some (.int v1), some (.int v2)]) (M := jm_197) rfl rfl rfl rfl ?_
  refine jx_next (pc := 0) (pc' := 1) rfl rfl ?_
  refine jx_geti (pc := 1) rfl ho ?_
  refine jx_ifeq (pc := 4) rfl (fun hc1 => ?_) (fun hc1 => ?_)
  · replace K := (if_pos hc1).symm.trans K
    refine jx_next (pc := 8) (pc' := 9) rfl rfl ?_
    refine jx_next (pc := 9) (pc' := 10) rfl rfl ?_
    refine jx_puti (pc := 10) rfl ho ?_
    refine jx_next (pc := 13) (pc' := 14) rfl rfl ?_
    refine jx_next (pc := 14) (pc' := 15) rfl rfl ?_
    refine jx_puti (pc := 15) rfl ho ?_
    obtain rfl := K
    exact jx_ret (pc := 18) rfl rfl HQ
  · replace K := (if_neg hc1).symm.trans K
    obtain rfl := K
    exact jx_ret (pc := 7) rfl rfl HQ
/-- AndGuestModel.asks([C)V -/
noncomputable def fM_asks (R : jR) (o : Nat) (v1 : Nat) (h : jH) : Option jH :=
  (if (h.1 o 5) = 0 then
  (Option.bind (fM_takes R o v1 h) (fun (z2 : Int32 × jH) =>
  (if z2.1 = 0 then
  some (fM_fail R o 1 (z2.2.1 o 2) z2.2)
  else
  some z2.2)))
  else
  some h)
theorem kM_asks {X : jX} {d : Nat} {R : jR} {Q : Option Value → jS → Prop} {o : Nat} {v1 : Nat} {h : jH} (hT : jTy R) (ho : jcl 176 o = 12) (hv1 : jcl 176 v1 = 22) (hd : 3 ≤ d) {z : jH} (K : fM_asks R o v1 h = some z) (HQ : Q none (176, R, z)) :
    jCa X d 192 [.ref o, .ref v1] (176, R, h) Q := by
  obtain ⟨d, rfl⟩ : ∃ d9, d = d9 + 1 := ⟨d - 1, by omega⟩
  unfold fM_asks at K
  refine jCa_of (es := jc_192) (pl := [some (.ref o), some (.ref v1)]) (M := jm_192) rfl rfl rfl rfl ?_
  refine jx_next (pc := 0) (pc' := 1) rfl rfl ?_
  refine jx_geti (pc := 1) rfl ho ?_
  refine jx_ifne (pc := 4) rfl (fun hc1 => ?_) (fun hc1 => ?_)
  · replace K := (if_pos hc1).symm.trans K
    refine jx_next (pc := 7) (pc' := 8) rfl rfl ?_
    refine jx_next (pc := 8) (pc' := 9) rfl rfl ?_
    refine jx_callv (pc := 9) (o := o) (rest := []) rfl ⟨by decide, by decide⟩ rfl ho (Nat.le_of_ble_eq_true rfl) ?_
    obtain ⟨z2, hz_z2, K⟩ := Option.bind_eq_some_iff.mp K
    refine kM_takes hT ho hv1 (by omega) hz_z2 ?_
    refine jx_ifne (pc := 12) rfl (fun hc3 => ?_) (fun hc3 => ?_)
    · replace K := (if_pos hc3).symm.trans K
      refine jx_next (pc := 15) (pc' := 16) rfl rfl ?_
      refine jx_next (pc := 16) (pc' := 17) rfl rfl ?_
      refine jx_next (pc := 17) (pc' := 18) rfl rfl ?_
      refine jx_geti (pc := 18) rfl ho ?_
      refine jx_callv (pc := 21) (o := o) (rest := []) rfl ⟨by decide, by decide⟩ rfl ho (Nat.le_of_ble_eq_true rfl) ?_
      refine kM_fail hT ho (by omega) rfl ?_
      obtain rfl := Option.some.inj K
      exact jx_ret (pc := 24) rfl rfl HQ
    · replace K := (if_neg hc3).symm.trans K
      obtain rfl := Option.some.inj K
      exact jx_ret (pc := 24) rfl rfl HQ
  · replace K := (if_neg hc1).symm.trans K
    obtain rfl := Option.some.inj K
    exact jx_ret (pc := 24) rfl rfl HQ
/-- AndGuestModel.isDigit(I)Z -/
noncomputable def fM_isDigit (v0 : Int32) : Int32 :=
  (if v0 < 48 then
  (0 : Int32)
  else
  (if 57 < v0 then
  (0 : Int32)
  else
  (1 : Int32)))
theorem kM_isDigit {X : jX} {d : Nat} {R : jR} {Q : Option Value → jS → Prop} {v0 : Int32} {h : jH}  (hd : 0 ≤ d) {z : Int32} (K : fM_isDigit v0 = z) (HQ : Q (some (.int z)) (176, R, h)) :
    jCa X d 199 [.int v0] (176, R, h) Q := by
  unfold fM_isDigit at K
  refine jCa_of (es := jc_199) (pl := [some (.int v0)]) (M := jm_199) rfl rfl rfl rfl ?_
  refine jx_next (pc := 0) (pc' := 1) rfl rfl ?_
  refine jx_next (pc := 1) (pc' := 3) rfl rfl ?_
  refine jx_iclt (pc := 3) rfl (fun hc1 => ?_) (fun hc1 => ?_)
  · replace K := (if_pos hc1).symm.trans K
    refine jx_next (pc := 16) (pc' := 17) rfl rfl ?_
    obtain rfl := K
    exact jx_zret (pc := 17) rfl (Or.inl rfl) HQ
  · replace K := (if_neg hc1).symm.trans K
    refine jx_next (pc := 6) (pc' := 7) rfl rfl ?_
    refine jx_next (pc := 7) (pc' := 9) rfl rfl ?_
    refine jx_icgt (pc := 9) rfl (fun hc2 => ?_) (fun hc2 => ?_)
    · replace K := (if_pos hc2).symm.trans K
      refine jx_next (pc := 16) (pc' := 17) rfl rfl ?_
      obtain rfl := K
      exact jx_zret (pc := 17) rfl (Or.inl rfl) HQ
    · replace K := (if_neg hc2).symm.trans K
      refine jx_next (pc := 12) (pc' := 13) rfl rfl ?_
      refine jx_next (pc := 13) (pc' := 17) rfl rfl ?_
      obtain rfl := K
      exact jx_zret (pc := 17) rfl (Or.inr rfl) HQ
/-- AndGuestModel.isIn(JJJ)Z -/
noncomputable def fM_isIn (v0 : Int64) (v2 : Int64) (v4 : Int64) : Int32 :=
  (if v0 < v2 then
  (0 : Int32)
  else
  (if v4 < v0 then
  (0 : Int32)
  else
  (1 : Int32)))
theorem kM_isIn {X : jX} {d : Nat} {R : jR} {Q : Option Value → jS → Prop} {v0 : Int64} {v2 : Int64} {v4 : Int64} {h : jH}  (hd : 0 ≤ d) {z : Int32} (K : fM_isIn v0 v2 v4 = z) (HQ : Q (some (.int z)) (176, R, h)) :
    jCa X d 200 [.long v0, .long v2, .long v4] (176, R, h) Q := by
  unfold fM_isIn at K
  refine jCa_of (es := jc_200) (pl := [some (.long v0), none, some (.long v2), none, some (.long v4), none]) (M := jm_200) rfl rfl rfl rfl ?_
  refine jx_next (pc := 0) (pc' := 1) rfl rfl ?_
  refine jx_next (pc := 1) (pc' := 2) rfl rfl ?_
  refine jx_lclt (pc := 2) rfl rfl (fun hc1 => ?_) (fun hc1 => ?_)
  · replace K := (if_pos hc1).symm.trans K
    refine jx_next (pc := 17) (pc' := 18) rfl rfl ?_
    obtain rfl := K
    exact jx_zret (pc := 18) rfl (Or.inl rfl) HQ
  · replace K := (if_neg hc1).symm.trans K
    refine jx_next (pc := 6) (pc' := 7) rfl rfl ?_
    refine jx_next (pc := 7) (pc' := 9) rfl rfl ?_
    refine jx_lcgt (pc := 9) rfl rfl (fun hc2 => ?_) (fun hc2 => ?_)
    · replace K := (if_pos hc2).symm.trans K
      refine jx_next (pc := 17) (pc' := 18) rfl rfl ?_
      obtain rfl := K
      exact jx_zret (pc := 18) rfl (Or.inl rfl) HQ
    · replace K := (if_neg hc2).symm.trans K
      refine jx_next (pc := 13) (pc' := 14) rfl rfl ?_
      refine jx_next (pc := 14) (pc' := 18) rfl rfl ?_
      obtain rfl := K
      exact jx_zret (pc := 18) rfl (Or.inr rfl) HQ
noncomputable def fM_number_j30 (R : jR) (o : Nat) (h : jH) : Option (Int32 × jH) :=
  some (0, (fM_fail R o 1 (h.1 o 2) h))
theorem kM_number_j30 {X : jX} {d : Nat} {R : jR} {Q : Option Value → jS → Prop} {o : Nat} {h : jH} (hT : jTy R) (ho : jcl 176 o = 12) (hd : 1 ≤ (d + 1)) {z : Int32 × jH} (K : fM_number_j30 R o h = some z) (HQ : Q (some (.int z.1)) (176, R, z.2)) :
    jEx X (d + 1) jc_198 30 [some (.ref o), none, none, none, none] [] (176, R, h) Q := by
  unfold fM_number_j30 at K
  refine jx_next (pc := 30) (pc' := 31) rfl rfl ?_
  refine jx_next (pc := 31) (pc' := 32) rfl rfl ?_
  refine jx_next (pc := 32) (pc' := 33) rfl rfl ?_
  refine jx_geti (pc := 33) rfl ho ?_
  refine jx_callv (pc := 36) (o := o) (rest := []) rfl ⟨by decide, by decide⟩ rfl ho (Nat.le_of_ble_eq_true rfl) ?_
  refine kM_fail hT ho (by omega) rfl ?_
  refine jx_next (pc := 39) (pc' := 40) rfl rfl ?_
  obtain rfl := Option.some.inj K
  exact jx_iret (pc := 40) rfl HQ
noncomputable def fM_number_l49_b (R : jR) (o : Nat) (v1 : Int32) (v2 : Int32) (v3 : Int32) (v4 : Int32) (h : jH) : Option ((Int32 × jH) ⊕ ((jH) ⊕ (Int32 × jH))) :=
  (if (h.1 o 2) < (h.1 o 3) then
  (if jin (h.1 o 2) (jsh (R o 0)).2 then
  (if (fM_isDigit (h.1 (R o 0) (h.1 o 2).toNatClampNeg)) = 0 then
  some (.inr (.inr (v4, h)))
  else
  (if ((h.1 o 2) - v3) = 4 then
  some (.inr (.inl h))
  else
  (if jin (h.1 o 2) (jsh (R o 0)).2 then
  some (.inl (((10 * v4) + (h.1 (R o 0) (h.1 o 2).toNatClampNeg)) - 48, jhI h o 2 ((h.1 o 2) + 1)))
  else none)))
  else none)
  else
  some (.inr (.inr (v4, h))))
noncomputable def fM_number_l49 (R : jR) (o : Nat) (v1 : Int32) (v2 : Int32) (v3 : Int32) : (Int32 × jH) → Option ((Int32 × jH) ⊕ ((jH) ⊕ (Int32 × jH))) :=
  fun (s : Int32 × jH) => fM_number_l49_b R o v1 v2 v3 s.1 s.2
theorem kM_number_l49_b {X : jX} {d : Nat} {R : jR} {Q : Option Value → jS → Prop} {o : Nat} {v1 : Int32} {v2 : Int32} {v3 : Int32} {v4 : Int32} {h : jH} (hT : jTy R) (ho : jcl 176 o = 12) (hd : 1 ≤ (d + 1)) {z : (Int32 × jH) ⊕ ((jH) ⊕ (Int32 × jH))} (K : fM_number_l49_b R o v1 v2 v3 v4 h = some z) (HL : ∀ s : Int32 × jH, z = .inl s → jEx X (d + 1) jc_198 49 [some (.ref o), some (.int v1), some (.int v2), some (.int v3), some (.int s.1)] [] (176, R, s.2) Q) (HE0 : ∀ x : jH, z = .inr (.inl x) → jEx X (d + 1) jc_198 85 [some (.ref o), none, none, none, none] [] (176, R, x) Q) (HE1 : ∀ x : Int32 × jH, z = .inr (.inr x) → jEx X (d + 1) jc_198 129 [some (.ref o), some (.int v1), some (.int v2), some (.int v3), some (.int x.1)] [] (176, R, x.2) Q) :
    jEx X (d + 1) jc_198 49 [some (.ref o), some (.int v1), some (.int v2), some (.int v3), some (.int v4)] [] (176, R, h) Q := by
  unfold fM_number_l49_b at K
  refine jx_next (pc := 49) (pc' := 50) rfl rfl ?_
  refine jx_geti (pc := 50) rfl ho ?_
  refine jx_next (pc := 53) (pc' := 54) rfl rfl ?_
  refine jx_geti (pc := 54) rfl ho ?_
  refine jx_icge (pc := 57) rfl (fun hc6 => ?_) (fun hc6 => ?_)
  · replace K := (if_pos hc6).symm.trans K
    refine jx_next (pc := 60) (pc' := 61) rfl rfl ?_
    refine jx_getr (pc := 61) rfl ho ?_
    refine jx_next (pc := 64) (pc' := 65) rfl rfl ?_
    refine jx_geti (pc := 65) rfl ho ?_
    obtain ⟨hg7, K⟩ := jguard K
    refine jx_iald (pc := 68) rfl (jtR hT ho (k := 0) (c := 20) rfl) hg7 ?_
    refine jx_calls (pc := 69) rfl (Nat.le_of_ble_eq_true rfl) (Nat.le_of_ble_eq_true rfl) ?_
    refine kM_isDigit  (by omega) rfl ?_
    refine jx_ifeq (pc := 72) rfl (fun hc8 => ?_) (fun hc8 => ?_)
    · replace K := (if_pos hc8).symm.trans K
      obtain rfl := Option.some.inj K
      refine jx_le (pl' := [some (.ref o), some (.int v1), some (.int v2), some (.int v3), some (.int v4)]) (jle_v (jle_v (jle_v (jle_v (jle_v jle_nil))))) ?_
      exact HE1 _ rfl
    · replace K := (if_neg hc8).symm.trans K
      refine jx_next (pc := 75) (pc' := 76) rfl rfl ?_
      refine jx_geti (pc := 76) rfl ho ?_
      refine jx_next (pc := 79) (pc' := 80) rfl rfl ?_
      refine jx_next (pc := 80) (pc' := 81) rfl rfl ?_
      refine jx_next (pc := 81) (pc' := 82) rfl rfl ?_
      refine jx_icne (pc := 82) rfl (fun hc9 => ?_) (fun hc9 => ?_)
      · replace K := (if_pos hc9).symm.trans K
        obtain rfl := Option.some.inj K
        refine jx_le (pl' := [some (.ref o), none, none, none, none]) (jle_v (jle_n (jle_n (jle_n (jle_n jle_nil))))) ?_
        exact HE0 _ rfl
      · replace K := (if_neg hc9).symm.trans K
        refine jx_next (pc := 96) (pc' := 98) rfl rfl ?_
        refine jx_next (pc := 98) (pc' := 100) rfl rfl ?_
        refine jx_next (pc := 100) (pc' := 101) rfl rfl ?_
        refine jx_next (pc := 101) (pc' := 102) rfl rfl ?_
        refine jx_getr (pc := 102) rfl ho ?_
        refine jx_next (pc := 105) (pc' := 106) rfl rfl ?_
        refine jx_geti (pc := 106) rfl ho ?_
        obtain ⟨hg10, K⟩ := jguard K
        refine jx_iald (pc := 109) rfl (jtR hT ho (k := 0) (c := 20) rfl) hg10 ?_
        refine jx_next (pc := 110) (pc' := 111) rfl rfl ?_
        refine jx_next (pc := 111) (pc' := 113) rfl rfl ?_
        refine jx_next (pc := 113) (pc' := 114) rfl rfl ?_
        refine jx_sti (pc := 114) (p2 := [some (.ref o), some (.int v1), some (.int v2), some (.int v3), some (.int (((10 * v4) + (h.1 (R o 0) (h.1 o 2).toNatClampNeg)) - 48))]) rfl (jlt rfl) rfl ?_
        refine jx_next (pc := 116) (pc' := 117) rfl rfl ?_
        refine jx_next (pc := 117) (pc' := 118) rfl rfl ?_
        refine jx_geti (pc := 118) rfl ho ?_
        refine jx_next (pc := 121) (pc' := 122) rfl rfl ?_
        refine jx_next (pc := 122) (pc' := 123) rfl rfl ?_
        refine jx_puti (pc := 123) rfl ho ?_
        refine jx_next (pc := 126) (pc' := 49) rfl rfl ?_
        obtain rfl := Option.some.inj K
        refine jx_le (pl' := [some (.ref o), some (.int v1), some (.int v2), some (.int v3), some (.int (((10 * v4) + (h.1 (R o 0) (h.1 o 2).toNatClampNeg)) - 48))]) (jle_v (jle_v (jle_v (jle_v (jle_v jle_nil))))) ?_
        exact HL _ rfl
  · replace K := (if_neg hc6).symm.trans K
    obtain rfl := Option.some.inj K
    refine jx_le (pl' := [some (.ref o), some (.int v1), some (.int v2), some (.int v3), some (.int v4)]) (jle_v (jle_v (jle_v (jle_v (jle_v jle_nil))))) ?_
    exact HE1 _ rfl
theorem kM_number_l49_w {X : jX} {d : Nat} {R : jR} {Q : Option Value → jS → Prop} {o : Nat} {v1 : Int32} {v2 : Int32} {v3 : Int32} (hT : jTy R) (ho : jcl 176 o = 12) (hd : 1 ≤ (d + 1)) {s : Int32 × jH} {x : (jH) ⊕ (Int32 × jH)} (K : jlim (fM_number_l49 R o v1 v2 v3) s = some x) (HE0 : ∀ x0 : jH, x = .inl x0 → jEx X (d + 1) jc_198 85 [some (.ref o), none, none, none, none] [] (176, R, x0) Q) (HE1 : ∀ x0 : Int32 × jH, x = .inr x0 → jEx X (d + 1) jc_198 129 [some (.ref o), some (.int v1), some (.int v2), some (.int v3), some (.int x0.1)] [] (176, R, x0.2) Q) :
    jEx X (d + 1) jc_198 49 [some (.ref o), some (.int v1), some (.int v2), some (.int v3), some (.int s.1)] [] (176, R, s.2) Q := by
  refine jlim_ok (G := fun s : Int32 × jH => jEx X (d + 1) jc_198 49 [some (.ref o), some (.int v1), some (.int v2), some (.int v3), some (.int s.1)] [] (176, R, s.2) Q) (GX := fun x : (jH) ⊕ (Int32 × jH) => (∀ x0 : jH, x = .inl x0 → jEx X (d + 1) jc_198 85 [some (.ref o), none, none, none, none] [] (176, R, x0) Q) ∧ (∀ x0 : Int32 × jH, x = .inr x0 → jEx X (d + 1) jc_198 129 [some (.ref o), some (.int v1), some (.int v2), some (.int v3), some (.int x0.1)] [] (176, R, x0.2) Q)) (fun s z hz HL HE => ?_) K ⟨HE0, HE1⟩
  exact kM_number_l49_b hT ho hd hz HL (fun x hx => (HE _ hx).1 x rfl) (fun x hx => (HE _ hx).2 x rfl)
/-- AndGuestModel.number(II)I -/
noncomputable def fM_number (R : jR) (o : Nat) (v1 : Int32) (v2 : Int32) (h : jH) : Option (Int32 × jH) :=
  (if (h.1 o 5) = 0 then
  (Option.bind (fM_look R o h) (fun (z2 : Int32 × jH) =>
  (if (fM_isDigit z2.1) = 0 then
  fM_number_j30 R o z2.2
  else
  (if (z2.2.1 o 2) = (z2.2.1 o 4) then
  fM_number_j30 R o z2.2
  else
  (Option.bind (jlim (fM_number_l49 R o v1 v2 (z2.2.1 o 2)) (0, z2.2)) (fun (x11 : (jH) ⊕ (Int32 × jH)) => Sum.elim (fun (y11 : jH) =>
  some (0, (fM_fail R o 1 (y11.1 o 2) y11))) (fun (y11 : Int32 × jH) =>
  (if (fM_isIn y11.1.toInt64 v1.toInt64 v2.toInt64) = 0 then
  some (y11.1, (fM_fail R o 2 (z2.2.1 o 2) (jhI y11.2 o 4 (y11.2.1 o 2))))
  else
  some (y11.1, jhI y11.2 o 4 (y11.2.1 o 2)))) x11))))))
  else
  some (0, h))
theorem kM_number {X : jX} {d : Nat} {R : jR} {Q : Option Value → jS → Prop} {o : Nat} {v1 : Int32} {v2 : Int32} {h : jH} (hT : jTy R) (ho : jcl 176 o = 12) (hd : 1 ≤ d) {z : Int32 × jH} (K : fM_number R o v1 v2 h = some z) (HQ : Q (some (.int z.1)) (176, R, z.2)) :
    jCa X d 198 [.ref o, .int v1, .int v2] (176, R, h) Q := by
  obtain ⟨d, rfl⟩ : ∃ d9, d = d9 + 1 := ⟨d - 1, by omega⟩
  unfold fM_number at K
  refine jCa_of (es := jc_198) (pl := [some (.ref o), some (.int v1), some (.int v2), none, none]) (M := jm_198) rfl rfl rfl rfl ?_
  refine jx_next (pc := 0) (pc' := 1) rfl rfl ?_
  refine jx_geti (pc := 1) rfl ho ?_
  refine jx_ifeq (pc := 4) rfl (fun hc1 => ?_) (fun hc1 => ?_)
  · replace K := (if_pos hc1).symm.trans K
    refine jx_next (pc := 9) (pc' := 10) rfl rfl ?_
    refine jx_callv (pc := 10) (o := o) (rest := []) rfl ⟨by decide, by decide⟩ rfl ho (Nat.le_of_ble_eq_true rfl) ?_
    obtain ⟨z2, hz_z2, K⟩ := Option.bind_eq_some_iff.mp K
    refine kM_look hT ho (by omega) hz_z2 ?_
    refine jx_calls (pc := 13) rfl (Nat.le_of_ble_eq_true rfl) (Nat.le_of_ble_eq_true rfl) ?_
    refine kM_isDigit  (by omega) rfl ?_
    refine jx_ifeq (pc := 16) rfl (fun hc3 => ?_) (fun hc3 => ?_)
    · replace K := (if_pos hc3).symm.trans K
      refine jx_le (pl' := [some (.ref o), none, none, none, none]) (jle_v (jle_n (jle_n (jle_n (jle_n jle_nil))))) ?_
      exact kM_number_j30 hT ho hd K HQ
    · replace K := (if_neg hc3).symm.trans K
      refine jx_next (pc := 19) (pc' := 20) rfl rfl ?_
      refine jx_geti (pc := 20) rfl ho ?_
      refine jx_next (pc := 23) (pc' := 24) rfl rfl ?_
      refine jx_geti (pc := 24) rfl ho ?_
      refine jx_icne (pc := 27) rfl (fun hc5 => ?_) (fun hc5 => ?_)
      · replace K := (if_pos hc5).symm.trans K
        refine jx_le (pl' := [some (.ref o), none, none, none, none]) (jle_v (jle_n (jle_n (jle_n (jle_n jle_nil))))) ?_
        exact kM_number_j30 hT ho hd K HQ
      · replace K := (if_neg hc5).symm.trans K
        refine jx_next (pc := 41) (pc' := 42) rfl rfl ?_
        refine jx_geti (pc := 42) rfl ho ?_
        refine jx_stin (pc := 45) (p2 := [some (.ref o), some (.int v1), some (.int v2), some (.int (z2.2.1 o 2)), none]) rfl (jlt rfl) rfl ?_
        refine jx_next (pc := 46) (pc' := 47) rfl rfl ?_
        refine jx_sti (pc := 47) (p2 := [some (.ref o), some (.int v1), some (.int v2), some (.int (z2.2.1 o 2)), some (.int 0)]) rfl (jlt rfl) rfl ?_
        refine jx_le (pl' := [some (.ref o), some (.int v1), some (.int v2), some (.int (z2.2.1 o 2)), some (.int 0)]) (jle_v (jle_v (jle_v (jle_v (jle_v jle_nil))))) ?_
        obtain ⟨x11, hz_x11, K⟩ := Option.bind_eq_some_iff.mp K
        refine kM_number_l49_w hT ho hd hz_x11 (fun y11 hx9 => ?_) (fun y11 hx9 => ?_)
        · subst hx9
          refine jx_next (pc := 85) (pc' := 86) rfl rfl ?_
          refine jx_next (pc := 86) (pc' := 87) rfl rfl ?_
          refine jx_next (pc := 87) (pc' := 88) rfl rfl ?_
          refine jx_geti (pc := 88) rfl ho ?_
          refine jx_callv (pc := 91) (o := o) (rest := []) rfl ⟨by decide, by decide⟩ rfl ho (Nat.le_of_ble_eq_true rfl) ?_
          refine kM_fail hT ho (by omega) rfl ?_
          refine jx_next (pc := 94) (pc' := 95) rfl rfl ?_
          obtain rfl := Option.some.inj K
          exact jx_iret (pc := 95) rfl HQ
        · subst hx9
          refine jx_next (pc := 129) (pc' := 130) rfl rfl ?_
          refine jx_next (pc := 130) (pc' := 131) rfl rfl ?_
          refine jx_geti (pc := 131) rfl ho ?_
          refine jx_puti (pc := 134) rfl ho ?_
          refine jx_next (pc := 137) (pc' := 139) rfl rfl ?_
          refine jx_next (pc := 139) (pc' := 140) rfl rfl ?_
          refine jx_next (pc := 140) (pc' := 141) rfl rfl ?_
          refine jx_next (pc := 141) (pc' := 142) rfl rfl ?_
          refine jx_next (pc := 142) (pc' := 143) rfl rfl ?_
          refine jx_next (pc := 143) (pc' := 144) rfl rfl ?_
          refine jx_calls (pc := 144) rfl (Nat.le_of_ble_eq_true rfl) (Nat.le_of_ble_eq_true rfl) ?_
          refine kM_isIn  (by omega) rfl ?_
          refine jx_ifne (pc := 147) rfl (fun hc13 => ?_) (fun hc13 => ?_)
          · replace K := (if_pos hc13).symm.trans K
            refine jx_next (pc := 150) (pc' := 151) rfl rfl ?_
            refine jx_next (pc := 151) (pc' := 152) rfl rfl ?_
            refine jx_next (pc := 152) (pc' := 153) rfl rfl ?_
            refine jx_callv (pc := 153) (o := o) (rest := []) rfl ⟨by decide, by decide⟩ rfl ho (Nat.le_of_ble_eq_true rfl) ?_
            refine kM_fail hT ho (by omega) rfl ?_
            refine jx_next (pc := 156) (pc' := 158) rfl rfl ?_
            obtain rfl := Option.some.inj K
            exact jx_iret (pc := 158) rfl HQ
          · replace K := (if_neg hc13).symm.trans K
            refine jx_next (pc := 156) (pc' := 158) rfl rfl ?_
            obtain rfl := Option.some.inj K
            exact jx_iret (pc := 158) rfl HQ
  · replace K := (if_neg hc1).symm.trans K
    refine jx_next (pc := 7) (pc' := 8) rfl rfl ?_
    obtain rfl := Option.some.inj K
    exact jx_iret (pc := 8) rfl HQ
/-- AndGuestModel.takesSign(I)Z -/
noncomputable def fM_takesSign (R : jR) (o : Nat) (v1 : Int32) (h : jH) : Option (Int32 × jH) :=
  (if (h.1 o 5) = 0 then
  (Option.bind (fM_look R o h) (fun (z2 : Int32 × jH) =>
  (if z2.1 = v1 then
  some (1, jhI z2.2 o 2 ((z2.2.1 o 2) + 1))
  else
  some (0, z2.2))))
  else
  some (0, h))
theorem kM_takesSign {X : jX} {d : Nat} {R : jR} {Q : Option Value → jS → Prop} {o : Nat} {v1 : Int32} {h : jH} (hT : jTy R) (ho : jcl 176 o = 12) (hd : 1 ≤ d) {z : Int32 × jH} (K : fM_takesSign R o v1 h = some z) (HQ : Q (some (.int z.1)) (176, R, z.2)) :
    jCa X d 202 [.ref o, .int v1] (176, R, h) Q := by
  obtain ⟨d, rfl⟩ : ∃ d9, d = d9 + 1 := ⟨d - 1, by omega⟩
  unfold fM_takesSign at K
  refine jCa_of (es := jc_202) (pl := [some (.ref o), some (.int v1)]) (M := jm_202) rfl rfl rfl rfl ?_
  refine jx_next (pc := 0) (pc' := 1) rfl rfl ?_
  refine jx_geti (pc := 1) rfl ho ?_
  refine jx_ifne (pc := 4) rfl (fun hc1 => ?_) (fun hc1 => ?_)
  · replace K := (if_pos hc1).symm.trans K
    refine jx_next (pc := 7) (pc' := 8) rfl rfl ?_
    refine jx_callv (pc := 8) (o := o) (rest := []) rfl ⟨by decide, by decide⟩ rfl ho (Nat.le_of_ble_eq_true rfl) ?_
    obtain ⟨z2, hz_z2, K⟩ := Option.bind_eq_some_iff.mp K
    refine kM_look hT ho (by omega) hz_z2 ?_
    refine jx_next (pc := 11) (pc' := 12) rfl rfl ?_
    refine jx_iceq (pc := 12) rfl (fun hc3 => ?_) (fun hc3 => ?_)
    · replace K := (if_pos hc3).symm.trans K
      refine jx_next (pc := 17) (pc' := 18) rfl rfl ?_
      refine jx_next (pc := 18) (pc' := 19) rfl rfl ?_
      refine jx_geti (pc := 19) rfl ho ?_
      refine jx_next (pc := 22) (pc' := 23) rfl rfl ?_
      refine jx_next (pc := 23) (pc' := 24) rfl rfl ?_
      refine jx_puti (pc := 24) rfl ho ?_
      refine jx_next (pc := 27) (pc' := 28) rfl rfl ?_
      obtain rfl := Option.some.inj K
      exact jx_zret (pc := 28) rfl (Or.inr rfl) HQ
    · replace K := (if_neg hc3).symm.trans K
      refine jx_next (pc := 15) (pc' := 16) rfl rfl ?_
      obtain rfl := Option.some.inj K
      exact jx_zret (pc := 16) rfl (Or.inl rfl) HQ
  · replace K := (if_neg hc1).symm.trans K
    refine jx_next (pc := 15) (pc' := 16) rfl rfl ?_
    obtain rfl := Option.some.inj K
    exact jx_zret (pc := 16) rfl (Or.inl rfl) HQ
/-- AndGuestModel.asksSign(I)V -/
noncomputable def fM_asksSign (R : jR) (o : Nat) (v1 : Int32) (h : jH) : Option jH :=
  (if (h.1 o 5) = 0 then
  (Option.bind (fM_takesSign R o v1 h) (fun (z2 : Int32 × jH) =>
  (if z2.1 = 0 then
  some (fM_fail R o 1 (z2.2.1 o 2) z2.2)
  else
  some z2.2)))
  else
  some h)
theorem kM_asksSign {X : jX} {d : Nat} {R : jR} {Q : Option Value → jS → Prop} {o : Nat} {v1 : Int32} {h : jH} (hT : jTy R) (ho : jcl 176 o = 12) (hd : 2 ≤ d) {z : jH} (K : fM_asksSign R o v1 h = some z) (HQ : Q none (176, R, z)) :
    jCa X d 201 [.ref o, .int v1] (176, R, h) Q := by
  obtain ⟨d, rfl⟩ : ∃ d9, d = d9 + 1 := ⟨d - 1, by omega⟩
  unfold fM_asksSign at K
  refine jCa_of (es := jc_201) (pl := [some (.ref o), some (.int v1)]) (M := jm_201) rfl rfl rfl rfl ?_
  refine jx_next (pc := 0) (pc' := 1) rfl rfl ?_
  refine jx_geti (pc := 1) rfl ho ?_
  refine jx_ifne (pc := 4) rfl (fun hc1 => ?_) (fun hc1 => ?_)
  · replace K := (if_pos hc1).symm.trans K
    refine jx_next (pc := 7) (pc' := 8) rfl rfl ?_
    refine jx_next (pc := 8) (pc' := 9) rfl rfl ?_
    refine jx_callv (pc := 9) (o := o) (rest := []) rfl ⟨by decide, by decide⟩ rfl ho (Nat.le_of_ble_eq_true rfl) ?_
    obtain ⟨z2, hz_z2, K⟩ := Option.bind_eq_some_iff.mp K
    refine kM_takesSign hT ho (by omega) hz_z2 ?_
    refine jx_ifne (pc := 12) rfl (fun hc3 => ?_) (fun hc3 => ?_)
    · replace K := (if_pos hc3).symm.trans K
      refine jx_next (pc := 15) (pc' := 16) rfl rfl ?_
      refine jx_next (pc := 16) (pc' := 17) rfl rfl ?_
      refine jx_next (pc := 17) (pc' := 18) rfl rfl ?_
      refine jx_geti (pc := 18) rfl ho ?_
      refine jx_callv (pc := 21) (o := o) (rest := []) rfl ⟨by decide, by decide⟩ rfl ho (Nat.le_of_ble_eq_true rfl) ?_
      refine kM_fail hT ho (by omega) rfl ?_
      obtain rfl := Option.some.inj K
      exact jx_ret (pc := 24) rfl rfl HQ
    · replace K := (if_neg hc3).symm.trans K
      obtain rfl := Option.some.inj K
      exact jx_ret (pc := 24) rfl rfl HQ
  · replace K := (if_neg hc1).symm.trans K
    obtain rfl := Option.some.inj K
    exact jx_ret (pc := 24) rfl rfl HQ
/-- AndGuestModel.weddingTold()V -/
noncomputable def fM_weddingTold (R : jR) (o : Nat) (h : jH) : Option jH :=
  (Option.bind (fM_asks R o (R o 10) h) (fun (z1 : jH) =>
  (Option.bind (fM_number R o 0 40 z1) (fun (z2 : Int32 × jH) =>
  (if jin 0 (jsh (R o 38)).2 then
  (Option.bind (fM_asks R o (R o 11) (jhI z2.2 (R o 38) (0 : Int32).toNatClampNeg z2.1)) (fun (z4 : jH) =>
  (Option.bind (fM_number R o 0 99 z4) (fun (z5 : Int32 × jH) =>
  (if jin 1 (jsh (R o 38)).2 then
  (Option.bind (fM_asks R o (R o 12) (jhI z5.2 (R o 38) (1 : Int32).toNatClampNeg z5.1)) (fun (z7 : jH) =>
  (Option.bind (fM_number R o 0 99 z7) (fun (z8 : Int32 × jH) =>
  (if jin 2 (jsh (R o 38)).2 then
  (Option.bind (fM_asks R o (R o 13) (jhI z8.2 (R o 38) (2 : Int32).toNatClampNeg z8.1)) (fun (z10 : jH) =>
  (Option.bind (fM_number R o 0 99 z10) (fun (z11 : Int32 × jH) =>
  (if jin 3 (jsh (R o 38)).2 then
  (Option.bind (fM_asksSign R o 59 (jhI z11.2 (R o 38) (3 : Int32).toNatClampNeg z11.1)) (fun (z13 : jH) =>
  some z13))
  else none)))))
  else none)))))
  else none)))))
  else none)))))
theorem kM_weddingTold {X : jX} {d : Nat} {R : jR} {Q : Option Value → jS → Prop} {o : Nat} {h : jH} (hT : jTy R) (ho : jcl 176 o = 12) (hd : 4 ≤ d) {z : jH} (K : fM_weddingTold R o h = some z) (HQ : Q none (176, R, z)) :
    jCa X d 191 [.ref o] (176, R, h) Q := by
  obtain ⟨d, rfl⟩ : ∃ d9, d = d9 + 1 := ⟨d - 1, by omega⟩
  unfold fM_weddingTold at K
  refine jCa_of (es := jc_191) (pl := [some (.ref o)]) (M := jm_191) rfl rfl rfl rfl ?_
  refine jx_next (pc := 0) (pc' := 1) rfl rfl ?_
  refine jx_next (pc := 1) (pc' := 2) rfl rfl ?_
  refine jx_getr (pc := 2) rfl ho ?_
  refine jx_callv (pc := 5) (o := o) (rest := []) rfl ⟨by decide, by decide⟩ rfl ho (Nat.le_of_ble_eq_true rfl) ?_
  obtain ⟨z1, hz_z1, K⟩ := Option.bind_eq_some_iff.mp K
  refine kM_asks hT ho (jtR hT ho (k := 10) (c := 22) rfl) (by omega) hz_z1 ?_
  refine jx_next (pc := 8) (pc' := 9) rfl rfl ?_
  refine jx_getr (pc := 9) rfl ho ?_
  refine jx_next (pc := 12) (pc' := 13) rfl rfl ?_
  refine jx_next (pc := 13) (pc' := 14) rfl rfl ?_
  refine jx_next (pc := 14) (pc' := 15) rfl rfl ?_
  refine jx_next (pc := 15) (pc' := 17) rfl rfl ?_
  refine jx_callv (pc := 17) (o := o) (rest := [.int 0, .ref (R o 38)]) rfl ⟨by decide, by decide⟩ rfl ho (Nat.le_of_ble_eq_true rfl) ?_
  obtain ⟨z2, hz_z2, K⟩ := Option.bind_eq_some_iff.mp K
  refine kM_number hT ho (by omega) hz_z2 ?_
  obtain ⟨hg3, K⟩ := jguard K
  refine jx_iast (pc := 20) rfl (jtR hT ho (k := 38) (c := 20) rfl) hg3 ?_
  refine jx_next (pc := 21) (pc' := 22) rfl rfl ?_
  refine jx_next (pc := 22) (pc' := 23) rfl rfl ?_
  refine jx_getr (pc := 23) rfl ho ?_
  refine jx_callv (pc := 26) (o := o) (rest := []) rfl ⟨by decide, by decide⟩ rfl ho (Nat.le_of_ble_eq_true rfl) ?_
  obtain ⟨z4, hz_z4, K⟩ := Option.bind_eq_some_iff.mp K
  refine kM_asks hT ho (jtR hT ho (k := 11) (c := 22) rfl) (by omega) hz_z4 ?_
  refine jx_next (pc := 29) (pc' := 30) rfl rfl ?_
  refine jx_getr (pc := 30) rfl ho ?_
  refine jx_next (pc := 33) (pc' := 34) rfl rfl ?_
  refine jx_next (pc := 34) (pc' := 35) rfl rfl ?_
  refine jx_next (pc := 35) (pc' := 36) rfl rfl ?_
  refine jx_next (pc := 36) (pc' := 38) rfl rfl ?_
  refine jx_callv (pc := 38) (o := o) (rest := [.int 1, .ref (R o 38)]) rfl ⟨by decide, by decide⟩ rfl ho (Nat.le_of_ble_eq_true rfl) ?_
  obtain ⟨z5, hz_z5, K⟩ := Option.bind_eq_some_iff.mp K
  refine kM_number hT ho (by omega) hz_z5 ?_
  obtain ⟨hg6, K⟩ := jguard K
  refine jx_iast (pc := 41) rfl (jtR hT ho (k := 38) (c := 20) rfl) hg6 ?_
  refine jx_next (pc := 42) (pc' := 43) rfl rfl ?_
  refine jx_next (pc := 43) (pc' := 44) rfl rfl ?_
  refine jx_getr (pc := 44) rfl ho ?_
  refine jx_callv (pc := 47) (o := o) (rest := []) rfl ⟨by decide, by decide⟩ rfl ho (Nat.le_of_ble_eq_true rfl) ?_
  obtain ⟨z7, hz_z7, K⟩ := Option.bind_eq_some_iff.mp K
  refine kM_asks hT ho (jtR hT ho (k := 12) (c := 22) rfl) (by omega) hz_z7 ?_
  refine jx_next (pc := 50) (pc' := 51) rfl rfl ?_
  refine jx_getr (pc := 51) rfl ho ?_
  refine jx_next (pc := 54) (pc' := 55) rfl rfl ?_
  refine jx_next (pc := 55) (pc' := 56) rfl rfl ?_
  refine jx_next (pc := 56) (pc' := 57) rfl rfl ?_
  refine jx_next (pc := 57) (pc' := 59) rfl rfl ?_
  refine jx_callv (pc := 59) (o := o) (rest := [.int 2, .ref (R o 38)]) rfl ⟨by decide, by decide⟩ rfl ho (Nat.le_of_ble_eq_true rfl) ?_
  obtain ⟨z8, hz_z8, K⟩ := Option.bind_eq_some_iff.mp K
  refine kM_number hT ho (by omega) hz_z8 ?_
  obtain ⟨hg9, K⟩ := jguard K
  refine jx_iast (pc := 62) rfl (jtR hT ho (k := 38) (c := 20) rfl) hg9 ?_
  refine jx_next (pc := 63) (pc' := 64) rfl rfl ?_
  refine jx_next (pc := 64) (pc' := 65) rfl rfl ?_
  refine jx_getr (pc := 65) rfl ho ?_
  refine jx_callv (pc := 68) (o := o) (rest := []) rfl ⟨by decide, by decide⟩ rfl ho (Nat.le_of_ble_eq_true rfl) ?_
  obtain ⟨z10, hz_z10, K⟩ := Option.bind_eq_some_iff.mp K
  refine kM_asks hT ho (jtR hT ho (k := 13) (c := 22) rfl) (by omega) hz_z10 ?_
  refine jx_next (pc := 71) (pc' := 72) rfl rfl ?_
  refine jx_getr (pc := 72) rfl ho ?_
  refine jx_next (pc := 75) (pc' := 76) rfl rfl ?_
  refine jx_next (pc := 76) (pc' := 77) rfl rfl ?_
  refine jx_next (pc := 77) (pc' := 78) rfl rfl ?_
  refine jx_next (pc := 78) (pc' := 80) rfl rfl ?_
  refine jx_callv (pc := 80) (o := o) (rest := [.int 3, .ref (R o 38)]) rfl ⟨by decide, by decide⟩ rfl ho (Nat.le_of_ble_eq_true rfl) ?_
  obtain ⟨z11, hz_z11, K⟩ := Option.bind_eq_some_iff.mp K
  refine kM_number hT ho (by omega) hz_z11 ?_
  obtain ⟨hg12, K⟩ := jguard K
  refine jx_iast (pc := 83) rfl (jtR hT ho (k := 38) (c := 20) rfl) hg12 ?_
  refine jx_next (pc := 84) (pc' := 85) rfl rfl ?_
  refine jx_next (pc := 85) (pc' := 87) rfl rfl ?_
  refine jx_callv (pc := 87) (o := o) (rest := []) rfl ⟨by decide, by decide⟩ rfl ho (Nat.le_of_ble_eq_true rfl) ?_
  obtain ⟨z13, hz_z13, K⟩ := Option.bind_eq_some_iff.mp K
  refine kM_asksSign hT ho (by omega) hz_z13 ?_
  obtain rfl := Option.some.inj K
  exact jx_ret (pc := 90) rfl rfl HQ
noncomputable def fM_isFull_j23 (R : jR) (o : Nat) (h : jH) : Option (Int32 × jH) :=
  (if (h.1 o 5) = 0 then
  some (0, h)
  else
  some (1, h))
theorem kM_isFull_j23 {X : jX} {d : Nat} {R : jR} {Q : Option Value → jS → Prop} {o : Nat} {h : jH} (hT : jTy R) (ho : jcl 176 o = 12) (hd : 1 ≤ (d + 1)) {z : Int32 × jH} (K : fM_isFull_j23 R o h = some z) (HQ : Q (some (.int z.1)) (176, R, z.2)) :
    jEx X (d + 1) jc_205 23 [some (.ref o), none, none, none] [] (176, R, h) Q := by
  unfold fM_isFull_j23 at K
  refine jx_next (pc := 23) (pc' := 24) rfl rfl ?_
  refine jx_geti (pc := 24) rfl ho ?_
  refine jx_ifeq (pc := 27) rfl (fun hc5 => ?_) (fun hc5 => ?_)
  · replace K := (if_pos hc5).symm.trans K
    refine jx_next (pc := 34) (pc' := 35) rfl rfl ?_
    obtain rfl := Option.some.inj K
    exact jx_zret (pc := 35) rfl (Or.inl rfl) HQ
  · replace K := (if_neg hc5).symm.trans K
    refine jx_next (pc := 30) (pc' := 31) rfl rfl ?_
    refine jx_next (pc := 31) (pc' := 35) rfl rfl ?_
    obtain rfl := Option.some.inj K
    exact jx_zret (pc := 35) rfl (Or.inr rfl) HQ
/-- AndGuestModel.isFull(III)Z -/
noncomputable def fM_isFull (R : jR) (o : Nat) (v1 : Int32) (v2 : Int32) (v3 : Int32) (h : jH) : Option (Int32 × jH) :=
  (if (h.1 o 5) = 0 then
  (if jin v1 (jsh (R o 36)).2 then
  (if (h.1 (R o 36) v1.toNatClampNeg) = v2 then
  fM_isFull_j23 R o (fM_fail R o 5 v3 h)
  else
  fM_isFull_j23 R o h)
  else none)
  else
  fM_isFull_j23 R o h)
theorem kM_isFull {X : jX} {d : Nat} {R : jR} {Q : Option Value → jS → Prop} {o : Nat} {v1 : Int32} {v2 : Int32} {v3 : Int32} {h : jH} (hT : jTy R) (ho : jcl 176 o = 12) (hd : 1 ≤ d) {z : Int32 × jH} (K : fM_isFull R o v1 v2 v3 h = some z) (HQ : Q (some (.int z.1)) (176, R, z.2)) :
    jCa X d 205 [.ref o, .int v1, .int v2, .int v3] (176, R, h) Q := by
  obtain ⟨d, rfl⟩ : ∃ d9, d = d9 + 1 := ⟨d - 1, by omega⟩
  unfold fM_isFull at K
  refine jCa_of (es := jc_205) (pl := [some (.ref o), some (.int v1), some (.int v2), some (.int v3)]) (M := jm_205) rfl rfl rfl rfl ?_
  refine jx_next (pc := 0) (pc' := 1) rfl rfl ?_
  refine jx_geti (pc := 1) rfl ho ?_
  refine jx_ifne (pc := 4) rfl (fun hc1 => ?_) (fun hc1 => ?_)
  · replace K := (if_pos hc1).symm.trans K
    refine jx_next (pc := 7) (pc' := 8) rfl rfl ?_
    refine jx_getr (pc := 8) rfl ho ?_
    refine jx_next (pc := 11) (pc' := 12) rfl rfl ?_
    obtain ⟨hg2, K⟩ := jguard K
    refine jx_iald (pc := 12) rfl (jtR hT ho (k := 36) (c := 20) rfl) hg2 ?_
    refine jx_next (pc := 13) (pc' := 14) rfl rfl ?_
    refine jx_icne (pc := 14) rfl (fun hc3 => ?_) (fun hc3 => ?_)
    · replace K := (if_pos hc3).symm.trans K
      refine jx_next (pc := 17) (pc' := 18) rfl rfl ?_
      refine jx_next (pc := 18) (pc' := 19) rfl rfl ?_
      refine jx_next (pc := 19) (pc' := 20) rfl rfl ?_
      refine jx_callv (pc := 20) (o := o) (rest := []) rfl ⟨by decide, by decide⟩ rfl ho (Nat.le_of_ble_eq_true rfl) ?_
      refine kM_fail hT ho (by omega) rfl ?_
      refine jx_le (pl' := [some (.ref o), none, none, none]) (jle_v (jle_n (jle_n (jle_n jle_nil)))) ?_
      exact kM_isFull_j23 hT ho hd K HQ
    · replace K := (if_neg hc3).symm.trans K
      refine jx_le (pl' := [some (.ref o), none, none, none]) (jle_v (jle_n (jle_n (jle_n jle_nil)))) ?_
      exact kM_isFull_j23 hT ho hd K HQ
  · replace K := (if_neg hc1).symm.trans K
    refine jx_le (pl' := [some (.ref o), none, none, none]) (jle_v (jle_n (jle_n (jle_n jle_nil)))) ?_
    exact kM_isFull_j23 hT ho hd K HQ
noncomputable def fM_isOwnHere_j299 (R : jR) (o : Nat) (s0 : Int32) (h : jH) : Option (Int32 × jH) :=
  (if s0 = 0 then
  (Option.bind (fM_isHere R o (R o 34) h) (fun (z53 : Int32 × jH) =>
  (if z53.1 = 0 then
  some (0, z53.2)
  else
  some (1, z53.2))))
  else
  some (1, h))
theorem kM_isOwnHere_j299 {X : jX} {d : Nat} {R : jR} {Q : Option Value → jS → Prop} {o : Nat} {s0 : Int32} {h : jH} (hT : jTy R) (ho : jcl 176 o = 12) (hd : 2 ≤ (d + 1)) {z : Int32 × jH} (K : fM_isOwnHere_j299 R o s0 h = some z) (HQ : Q (some (.int z.1)) (176, R, z.2)) :
    jEx X (d + 1) jc_207 299 [some (.ref o), none] [.int s0] (176, R, h) Q := by
  unfold fM_isOwnHere_j299 at K
  refine jx_stin (pc := 299) (p2 := [some (.ref o), some (.int s0)]) rfl (jlt rfl) rfl ?_
  refine jx_next (pc := 300) (pc' := 301) rfl rfl ?_
  refine jx_ifne (pc := 301) rfl (fun hc52 => ?_) (fun hc52 => ?_)
  · replace K := (if_pos hc52).symm.trans K
    refine jx_next (pc := 304) (pc' := 305) rfl rfl ?_
    refine jx_next (pc := 305) (pc' := 306) rfl rfl ?_
    refine jx_getr (pc := 306) rfl ho ?_
    refine jx_callv (pc := 309) (o := o) (rest := []) rfl ⟨by decide, by decide⟩ rfl ho (Nat.le_of_ble_eq_true rfl) ?_
    obtain ⟨z53, hz_z53, K⟩ := Option.bind_eq_some_iff.mp K
    refine kM_isHere hT ho (jtR hT ho (k := 34) (c := 22) rfl) (by omega) hz_z53 ?_
    refine jx_ifeq (pc := 312) rfl (fun hc54 => ?_) (fun hc54 => ?_)
    · replace K := (if_pos hc54).symm.trans K
      refine jx_next (pc := 319) (pc' := 320) rfl rfl ?_
      refine jx_stin (pc := 320) (p2 := [some (.ref o), some (.int 0)]) rfl (jlt rfl) rfl ?_
      refine jx_next (pc := 321) (pc' := 322) rfl rfl ?_
      obtain rfl := Option.some.inj K
      exact jx_zret (pc := 322) rfl (Or.inl rfl) HQ
    · replace K := (if_neg hc54).symm.trans K
      refine jx_next (pc := 315) (pc' := 316) rfl rfl ?_
      refine jx_next (pc := 316) (pc' := 320) rfl rfl ?_
      refine jx_stin (pc := 320) (p2 := [some (.ref o), some (.int 1)]) rfl (jlt rfl) rfl ?_
      refine jx_next (pc := 321) (pc' := 322) rfl rfl ?_
      obtain rfl := Option.some.inj K
      exact jx_zret (pc := 322) rfl (Or.inr rfl) HQ
  · replace K := (if_neg hc52).symm.trans K
    refine jx_next (pc := 315) (pc' := 316) rfl rfl ?_
    refine jx_next (pc := 316) (pc' := 320) rfl rfl ?_
    refine jx_stin (pc := 320) (p2 := [some (.ref o), some (.int 1)]) rfl (jlt rfl) rfl ?_
    refine jx_next (pc := 321) (pc' := 322) rfl rfl ?_
    obtain rfl := Option.some.inj K
    exact jx_zret (pc := 322) rfl (Or.inr rfl) HQ
noncomputable def fM_isOwnHere_j294 (R : jR) (o : Nat) (h : jH) : Option (Int32 × jH) :=
  fM_isOwnHere_j299 R o 1 h
theorem kM_isOwnHere_j294 {X : jX} {d : Nat} {R : jR} {Q : Option Value → jS → Prop} {o : Nat} {h : jH} (hT : jTy R) (ho : jcl 176 o = 12) (hd : 2 ≤ (d + 1)) {z : Int32 × jH} (K : fM_isOwnHere_j294 R o h = some z) (HQ : Q (some (.int z.1)) (176, R, z.2)) :
    jEx X (d + 1) jc_207 294 [some (.ref o), none] [] (176, R, h) Q := by
  unfold fM_isOwnHere_j294 at K
  refine jx_next (pc := 294) (pc' := 295) rfl rfl ?_
  refine jx_next (pc := 295) (pc' := 299) rfl rfl ?_
  refine jx_le (pl' := [some (.ref o), none]) (jle_v (jle_n jle_nil)) ?_
  exact kM_isOwnHere_j299 hT ho hd K HQ
noncomputable def fM_isOwnHere_j223 (R : jR) (o : Nat) (s0 : Int32) (h : jH) : Option (Int32 × jH) :=
  (if s0 = 0 then
  (Option.bind (fM_isHere R o (R o 28) h) (fun (z40 : Int32 × jH) =>
  (if z40.1 = 0 then
  (Option.bind (fM_isHere R o (R o 29) z40.2) (fun (z42 : Int32 × jH) =>
  (if z42.1 = 0 then
  (Option.bind (fM_isHere R o (R o 30) z42.2) (fun (z44 : Int32 × jH) =>
  (if z44.1 = 0 then
  (Option.bind (fM_isHere R o (R o 31) z44.2) (fun (z46 : Int32 × jH) =>
  (if z46.1 = 0 then
  (Option.bind (fM_isHere R o (R o 32) z46.2) (fun (z48 : Int32 × jH) =>
  (if z48.1 = 0 then
  (Option.bind (fM_isHere R o (R o 33) z48.2) (fun (z50 : Int32 × jH) =>
  (if z50.1 = 0 then
  fM_isOwnHere_j299 R o 0 z50.2
  else
  fM_isOwnHere_j294 R o z50.2)))
  else
  fM_isOwnHere_j294 R o z48.2)))
  else
  fM_isOwnHere_j294 R o z46.2)))
  else
  fM_isOwnHere_j294 R o z44.2)))
  else
  fM_isOwnHere_j294 R o z42.2)))
  else
  fM_isOwnHere_j294 R o z40.2)))
  else
  fM_isOwnHere_j294 R o h)
theorem kM_isOwnHere_j223 {X : jX} {d : Nat} {R : jR} {Q : Option Value → jS → Prop} {o : Nat} {s0 : Int32} {h : jH} (hT : jTy R) (ho : jcl 176 o = 12) (hd : 2 ≤ (d + 1)) {z : Int32 × jH} (K : fM_isOwnHere_j223 R o s0 h = some z) (HQ : Q (some (.int z.1)) (176, R, z.2)) :
    jEx X (d + 1) jc_207 223 [some (.ref o), none] [.int s0] (176, R, h) Q := by
  unfold fM_isOwnHere_j223 at K
  refine jx_stin (pc := 223) (p2 := [some (.ref o), some (.int s0)]) rfl (jlt rfl) rfl ?_
  refine jx_next (pc := 224) (pc' := 225) rfl rfl ?_
  refine jx_ifne (pc := 225) rfl (fun hc39 => ?_) (fun hc39 => ?_)
  · replace K := (if_pos hc39).symm.trans K
    refine jx_next (pc := 228) (pc' := 229) rfl rfl ?_
    refine jx_next (pc := 229) (pc' := 230) rfl rfl ?_
    refine jx_getr (pc := 230) rfl ho ?_
    refine jx_callv (pc := 233) (o := o) (rest := []) rfl ⟨by decide, by decide⟩ rfl ho (Nat.le_of_ble_eq_true rfl) ?_
    obtain ⟨z40, hz_z40, K⟩ := Option.bind_eq_some_iff.mp K
    refine kM_isHere hT ho (jtR hT ho (k := 28) (c := 22) rfl) (by omega) hz_z40 ?_
    refine jx_ifne (pc := 236) rfl (fun hc41 => ?_) (fun hc41 => ?_)
    · replace K := (if_pos hc41).symm.trans K
      refine jx_next (pc := 239) (pc' := 240) rfl rfl ?_
      refine jx_next (pc := 240) (pc' := 241) rfl rfl ?_
      refine jx_getr (pc := 241) rfl ho ?_
      refine jx_callv (pc := 244) (o := o) (rest := []) rfl ⟨by decide, by decide⟩ rfl ho (Nat.le_of_ble_eq_true rfl) ?_
      obtain ⟨z42, hz_z42, K⟩ := Option.bind_eq_some_iff.mp K
      refine kM_isHere hT ho (jtR hT ho (k := 29) (c := 22) rfl) (by omega) hz_z42 ?_
      refine jx_ifne (pc := 247) rfl (fun hc43 => ?_) (fun hc43 => ?_)
      · replace K := (if_pos hc43).symm.trans K
        refine jx_next (pc := 250) (pc' := 251) rfl rfl ?_
        refine jx_next (pc := 251) (pc' := 252) rfl rfl ?_
        refine jx_getr (pc := 252) rfl ho ?_
        refine jx_callv (pc := 255) (o := o) (rest := []) rfl ⟨by decide, by decide⟩ rfl ho (Nat.le_of_ble_eq_true rfl) ?_
        obtain ⟨z44, hz_z44, K⟩ := Option.bind_eq_some_iff.mp K
        refine kM_isHere hT ho (jtR hT ho (k := 30) (c := 22) rfl) (by omega) hz_z44 ?_
        refine jx_ifne (pc := 258) rfl (fun hc45 => ?_) (fun hc45 => ?_)
        · replace K := (if_pos hc45).symm.trans K
          refine jx_next (pc := 261) (pc' := 262) rfl rfl ?_
          refine jx_next (pc := 262) (pc' := 263) rfl rfl ?_
          refine jx_getr (pc := 263) rfl ho ?_
          refine jx_callv (pc := 266) (o := o) (rest := []) rfl ⟨by decide, by decide⟩ rfl ho (Nat.le_of_ble_eq_true rfl) ?_
          obtain ⟨z46, hz_z46, K⟩ := Option.bind_eq_some_iff.mp K
          refine kM_isHere hT ho (jtR hT ho (k := 31) (c := 22) rfl) (by omega) hz_z46 ?_
          refine jx_ifne (pc := 269) rfl (fun hc47 => ?_) (fun hc47 => ?_)
          · replace K := (if_pos hc47).symm.trans K
            refine jx_next (pc := 272) (pc' := 273) rfl rfl ?_
            refine jx_next (pc := 273) (pc' := 274) rfl rfl ?_
            refine jx_getr (pc := 274) rfl ho ?_
            refine jx_callv (pc := 277) (o := o) (rest := []) rfl ⟨by decide, by decide⟩ rfl ho (Nat.le_of_ble_eq_true rfl) ?_
            obtain ⟨z48, hz_z48, K⟩ := Option.bind_eq_some_iff.mp K
            refine kM_isHere hT ho (jtR hT ho (k := 32) (c := 22) rfl) (by omega) hz_z48 ?_
            refine jx_ifne (pc := 280) rfl (fun hc49 => ?_) (fun hc49 => ?_)
            · replace K := (if_pos hc49).symm.trans K
              refine jx_next (pc := 283) (pc' := 284) rfl rfl ?_
              refine jx_next (pc := 284) (pc' := 285) rfl rfl ?_
              refine jx_getr (pc := 285) rfl ho ?_
              refine jx_callv (pc := 288) (o := o) (rest := []) rfl ⟨by decide, by decide⟩ rfl ho (Nat.le_of_ble_eq_true rfl) ?_
              obtain ⟨z50, hz_z50, K⟩ := Option.bind_eq_some_iff.mp K
              refine kM_isHere hT ho (jtR hT ho (k := 33) (c := 22) rfl) (by omega) hz_z50 ?_
              refine jx_ifeq (pc := 291) rfl (fun hc51 => ?_) (fun hc51 => ?_)
              · replace K := (if_pos hc51).symm.trans K
                refine jx_next (pc := 298) (pc' := 299) rfl rfl ?_
                refine jx_le (pl' := [some (.ref o), none]) (jle_v (jle_n jle_nil)) ?_
                exact kM_isOwnHere_j299 hT ho hd K HQ
              · replace K := (if_neg hc51).symm.trans K
                refine jx_le (pl' := [some (.ref o), none]) (jle_v (jle_n jle_nil)) ?_
                exact kM_isOwnHere_j294 hT ho hd K HQ
            · replace K := (if_neg hc49).symm.trans K
              refine jx_le (pl' := [some (.ref o), none]) (jle_v (jle_n jle_nil)) ?_
              exact kM_isOwnHere_j294 hT ho hd K HQ
          · replace K := (if_neg hc47).symm.trans K
            refine jx_le (pl' := [some (.ref o), none]) (jle_v (jle_n jle_nil)) ?_
            exact kM_isOwnHere_j294 hT ho hd K HQ
        · replace K := (if_neg hc45).symm.trans K
          refine jx_le (pl' := [some (.ref o), none]) (jle_v (jle_n jle_nil)) ?_
          exact kM_isOwnHere_j294 hT ho hd K HQ
      · replace K := (if_neg hc43).symm.trans K
        refine jx_le (pl' := [some (.ref o), none]) (jle_v (jle_n jle_nil)) ?_
        exact kM_isOwnHere_j294 hT ho hd K HQ
    · replace K := (if_neg hc41).symm.trans K
      refine jx_le (pl' := [some (.ref o), none]) (jle_v (jle_n jle_nil)) ?_
      exact kM_isOwnHere_j294 hT ho hd K HQ
  · replace K := (if_neg hc39).symm.trans K
    refine jx_le (pl' := [some (.ref o), none]) (jle_v (jle_n jle_nil)) ?_
    exact kM_isOwnHere_j294 hT ho hd K HQ
noncomputable def fM_isOwnHere_j218 (R : jR) (o : Nat) (h : jH) : Option (Int32 × jH) :=
  fM_isOwnHere_j223 R o 1 h
theorem kM_isOwnHere_j218 {X : jX} {d : Nat} {R : jR} {Q : Option Value → jS → Prop} {o : Nat} {h : jH} (hT : jTy R) (ho : jcl 176 o = 12) (hd : 2 ≤ (d + 1)) {z : Int32 × jH} (K : fM_isOwnHere_j218 R o h = some z) (HQ : Q (some (.int z.1)) (176, R, z.2)) :
    jEx X (d + 1) jc_207 218 [some (.ref o), none] [] (176, R, h) Q := by
  unfold fM_isOwnHere_j218 at K
  refine jx_next (pc := 218) (pc' := 219) rfl rfl ?_
  refine jx_next (pc := 219) (pc' := 223) rfl rfl ?_
  refine jx_le (pl' := [some (.ref o), none]) (jle_v (jle_n jle_nil)) ?_
  exact kM_isOwnHere_j223 hT ho hd K HQ
noncomputable def fM_isOwnHere_j147 (R : jR) (o : Nat) (s0 : Int32) (h : jH) : Option (Int32 × jH) :=
  (if s0 = 0 then
  (Option.bind (fM_isHere R o (R o 22) h) (fun (z27 : Int32 × jH) =>
  (if z27.1 = 0 then
  (Option.bind (fM_isHere R o (R o 23) z27.2) (fun (z29 : Int32 × jH) =>
  (if z29.1 = 0 then
  (Option.bind (fM_isHere R o (R o 24) z29.2) (fun (z31 : Int32 × jH) =>
  (if z31.1 = 0 then
  (Option.bind (fM_isHere R o (R o 25) z31.2) (fun (z33 : Int32 × jH) =>
  (if z33.1 = 0 then
  (Option.bind (fM_isHere R o (R o 26) z33.2) (fun (z35 : Int32 × jH) =>
  (if z35.1 = 0 then
  (Option.bind (fM_isHere R o (R o 27) z35.2) (fun (z37 : Int32 × jH) =>
  (if z37.1 = 0 then
  fM_isOwnHere_j223 R o 0 z37.2
  else
  fM_isOwnHere_j218 R o z37.2)))
  else
  fM_isOwnHere_j218 R o z35.2)))
  else
  fM_isOwnHere_j218 R o z33.2)))
  else
  fM_isOwnHere_j218 R o z31.2)))
  else
  fM_isOwnHere_j218 R o z29.2)))
  else
  fM_isOwnHere_j218 R o z27.2)))
  else
  fM_isOwnHere_j218 R o h)
theorem kM_isOwnHere_j147 {X : jX} {d : Nat} {R : jR} {Q : Option Value → jS → Prop} {o : Nat} {s0 : Int32} {h : jH} (hT : jTy R) (ho : jcl 176 o = 12) (hd : 2 ≤ (d + 1)) {z : Int32 × jH} (K : fM_isOwnHere_j147 R o s0 h = some z) (HQ : Q (some (.int z.1)) (176, R, z.2)) :
    jEx X (d + 1) jc_207 147 [some (.ref o), none] [.int s0] (176, R, h) Q := by
  unfold fM_isOwnHere_j147 at K
  refine jx_stin (pc := 147) (p2 := [some (.ref o), some (.int s0)]) rfl (jlt rfl) rfl ?_
  refine jx_next (pc := 148) (pc' := 149) rfl rfl ?_
  refine jx_ifne (pc := 149) rfl (fun hc26 => ?_) (fun hc26 => ?_)
  · replace K := (if_pos hc26).symm.trans K
    refine jx_next (pc := 152) (pc' := 153) rfl rfl ?_
    refine jx_next (pc := 153) (pc' := 154) rfl rfl ?_
    refine jx_getr (pc := 154) rfl ho ?_
    refine jx_callv (pc := 157) (o := o) (rest := []) rfl ⟨by decide, by decide⟩ rfl ho (Nat.le_of_ble_eq_true rfl) ?_
    obtain ⟨z27, hz_z27, K⟩ := Option.bind_eq_some_iff.mp K
    refine kM_isHere hT ho (jtR hT ho (k := 22) (c := 22) rfl) (by omega) hz_z27 ?_
    refine jx_ifne (pc := 160) rfl (fun hc28 => ?_) (fun hc28 => ?_)
    · replace K := (if_pos hc28).symm.trans K
      refine jx_next (pc := 163) (pc' := 164) rfl rfl ?_
      refine jx_next (pc := 164) (pc' := 165) rfl rfl ?_
      refine jx_getr (pc := 165) rfl ho ?_
      refine jx_callv (pc := 168) (o := o) (rest := []) rfl ⟨by decide, by decide⟩ rfl ho (Nat.le_of_ble_eq_true rfl) ?_
      obtain ⟨z29, hz_z29, K⟩ := Option.bind_eq_some_iff.mp K
      refine kM_isHere hT ho (jtR hT ho (k := 23) (c := 22) rfl) (by omega) hz_z29 ?_
      refine jx_ifne (pc := 171) rfl (fun hc30 => ?_) (fun hc30 => ?_)
      · replace K := (if_pos hc30).symm.trans K
        refine jx_next (pc := 174) (pc' := 175) rfl rfl ?_
        refine jx_next (pc := 175) (pc' := 176) rfl rfl ?_
        refine jx_getr (pc := 176) rfl ho ?_
        refine jx_callv (pc := 179) (o := o) (rest := []) rfl ⟨by decide, by decide⟩ rfl ho (Nat.le_of_ble_eq_true rfl) ?_
        obtain ⟨z31, hz_z31, K⟩ := Option.bind_eq_some_iff.mp K
        refine kM_isHere hT ho (jtR hT ho (k := 24) (c := 22) rfl) (by omega) hz_z31 ?_
        refine jx_ifne (pc := 182) rfl (fun hc32 => ?_) (fun hc32 => ?_)
        · replace K := (if_pos hc32).symm.trans K
          refine jx_next (pc := 185) (pc' := 186) rfl rfl ?_
          refine jx_next (pc := 186) (pc' := 187) rfl rfl ?_
          refine jx_getr (pc := 187) rfl ho ?_
          refine jx_callv (pc := 190) (o := o) (rest := []) rfl ⟨by decide, by decide⟩ rfl ho (Nat.le_of_ble_eq_true rfl) ?_
          obtain ⟨z33, hz_z33, K⟩ := Option.bind_eq_some_iff.mp K
          refine kM_isHere hT ho (jtR hT ho (k := 25) (c := 22) rfl) (by omega) hz_z33 ?_
          refine jx_ifne (pc := 193) rfl (fun hc34 => ?_) (fun hc34 => ?_)
          · replace K := (if_pos hc34).symm.trans K
            refine jx_next (pc := 196) (pc' := 197) rfl rfl ?_
            refine jx_next (pc := 197) (pc' := 198) rfl rfl ?_
            refine jx_getr (pc := 198) rfl ho ?_
            refine jx_callv (pc := 201) (o := o) (rest := []) rfl ⟨by decide, by decide⟩ rfl ho (Nat.le_of_ble_eq_true rfl) ?_
            obtain ⟨z35, hz_z35, K⟩ := Option.bind_eq_some_iff.mp K
            refine kM_isHere hT ho (jtR hT ho (k := 26) (c := 22) rfl) (by omega) hz_z35 ?_
            refine jx_ifne (pc := 204) rfl (fun hc36 => ?_) (fun hc36 => ?_)
            · replace K := (if_pos hc36).symm.trans K
              refine jx_next (pc := 207) (pc' := 208) rfl rfl ?_
              refine jx_next (pc := 208) (pc' := 209) rfl rfl ?_
              refine jx_getr (pc := 209) rfl ho ?_
              refine jx_callv (pc := 212) (o := o) (rest := []) rfl ⟨by decide, by decide⟩ rfl ho (Nat.le_of_ble_eq_true rfl) ?_
              obtain ⟨z37, hz_z37, K⟩ := Option.bind_eq_some_iff.mp K
              refine kM_isHere hT ho (jtR hT ho (k := 27) (c := 22) rfl) (by omega) hz_z37 ?_
              refine jx_ifeq (pc := 215) rfl (fun hc38 => ?_) (fun hc38 => ?_)
              · replace K := (if_pos hc38).symm.trans K
                refine jx_next (pc := 222) (pc' := 223) rfl rfl ?_
                refine jx_le (pl' := [some (.ref o), none]) (jle_v (jle_n jle_nil)) ?_
                exact kM_isOwnHere_j223 hT ho hd K HQ
              · replace K := (if_neg hc38).symm.trans K
                refine jx_le (pl' := [some (.ref o), none]) (jle_v (jle_n jle_nil)) ?_
                exact kM_isOwnHere_j218 hT ho hd K HQ
            · replace K := (if_neg hc36).symm.trans K
              refine jx_le (pl' := [some (.ref o), none]) (jle_v (jle_n jle_nil)) ?_
              exact kM_isOwnHere_j218 hT ho hd K HQ
          · replace K := (if_neg hc34).symm.trans K
            refine jx_le (pl' := [some (.ref o), none]) (jle_v (jle_n jle_nil)) ?_
            exact kM_isOwnHere_j218 hT ho hd K HQ
        · replace K := (if_neg hc32).symm.trans K
          refine jx_le (pl' := [some (.ref o), none]) (jle_v (jle_n jle_nil)) ?_
          exact kM_isOwnHere_j218 hT ho hd K HQ
      · replace K := (if_neg hc30).symm.trans K
        refine jx_le (pl' := [some (.ref o), none]) (jle_v (jle_n jle_nil)) ?_
        exact kM_isOwnHere_j218 hT ho hd K HQ
    · replace K := (if_neg hc28).symm.trans K
      refine jx_le (pl' := [some (.ref o), none]) (jle_v (jle_n jle_nil)) ?_
      exact kM_isOwnHere_j218 hT ho hd K HQ
  · replace K := (if_neg hc26).symm.trans K
    refine jx_le (pl' := [some (.ref o), none]) (jle_v (jle_n jle_nil)) ?_
    exact kM_isOwnHere_j218 hT ho hd K HQ
noncomputable def fM_isOwnHere_j142 (R : jR) (o : Nat) (h : jH) : Option (Int32 × jH) :=
  fM_isOwnHere_j147 R o 1 h
theorem kM_isOwnHere_j142 {X : jX} {d : Nat} {R : jR} {Q : Option Value → jS → Prop} {o : Nat} {h : jH} (hT : jTy R) (ho : jcl 176 o = 12) (hd : 2 ≤ (d + 1)) {z : Int32 × jH} (K : fM_isOwnHere_j142 R o h = some z) (HQ : Q (some (.int z.1)) (176, R, z.2)) :
    jEx X (d + 1) jc_207 142 [some (.ref o), none] [] (176, R, h) Q := by
  unfold fM_isOwnHere_j142 at K
  refine jx_next (pc := 142) (pc' := 143) rfl rfl ?_
  refine jx_next (pc := 143) (pc' := 147) rfl rfl ?_
  refine jx_le (pl' := [some (.ref o), none]) (jle_v (jle_n jle_nil)) ?_
  exact kM_isOwnHere_j147 hT ho hd K HQ
noncomputable def fM_isOwnHere_j71 (R : jR) (o : Nat) (s0 : Int32) (h : jH) : Option (Int32 × jH) :=
  (if s0 = 0 then
  (Option.bind (fM_isHere R o (R o 16) h) (fun (z14 : Int32 × jH) =>
  (if z14.1 = 0 then
  (Option.bind (fM_isHere R o (R o 17) z14.2) (fun (z16 : Int32 × jH) =>
  (if z16.1 = 0 then
  (Option.bind (fM_isHere R o (R o 18) z16.2) (fun (z18 : Int32 × jH) =>
  (if z18.1 = 0 then
  (Option.bind (fM_isHere R o (R o 19) z18.2) (fun (z20 : Int32 × jH) =>
  (if z20.1 = 0 then
  (Option.bind (fM_isHere R o (R o 20) z20.2) (fun (z22 : Int32 × jH) =>
  (if z22.1 = 0 then
  (Option.bind (fM_isHere R o (R o 21) z22.2) (fun (z24 : Int32 × jH) =>
  (if z24.1 = 0 then
  fM_isOwnHere_j147 R o 0 z24.2
  else
  fM_isOwnHere_j142 R o z24.2)))
  else
  fM_isOwnHere_j142 R o z22.2)))
  else
  fM_isOwnHere_j142 R o z20.2)))
  else
  fM_isOwnHere_j142 R o z18.2)))
  else
  fM_isOwnHere_j142 R o z16.2)))
  else
  fM_isOwnHere_j142 R o z14.2)))
  else
  fM_isOwnHere_j142 R o h)
theorem kM_isOwnHere_j71 {X : jX} {d : Nat} {R : jR} {Q : Option Value → jS → Prop} {o : Nat} {s0 : Int32} {h : jH} (hT : jTy R) (ho : jcl 176 o = 12) (hd : 2 ≤ (d + 1)) {z : Int32 × jH} (K : fM_isOwnHere_j71 R o s0 h = some z) (HQ : Q (some (.int z.1)) (176, R, z.2)) :
    jEx X (d + 1) jc_207 71 [some (.ref o), none] [.int s0] (176, R, h) Q := by
  unfold fM_isOwnHere_j71 at K
  refine jx_stin (pc := 71) (p2 := [some (.ref o), some (.int s0)]) rfl (jlt rfl) rfl ?_
  refine jx_next (pc := 72) (pc' := 73) rfl rfl ?_
  refine jx_ifne (pc := 73) rfl (fun hc13 => ?_) (fun hc13 => ?_)
  · replace K := (if_pos hc13).symm.trans K
    refine jx_next (pc := 76) (pc' := 77) rfl rfl ?_
    refine jx_next (pc := 77) (pc' := 78) rfl rfl ?_
    refine jx_getr (pc := 78) rfl ho ?_
    refine jx_callv (pc := 81) (o := o) (rest := []) rfl ⟨by decide, by decide⟩ rfl ho (Nat.le_of_ble_eq_true rfl) ?_
    obtain ⟨z14, hz_z14, K⟩ := Option.bind_eq_some_iff.mp K
    refine kM_isHere hT ho (jtR hT ho (k := 16) (c := 22) rfl) (by omega) hz_z14 ?_
    refine jx_ifne (pc := 84) rfl (fun hc15 => ?_) (fun hc15 => ?_)
    · replace K := (if_pos hc15).symm.trans K
      refine jx_next (pc := 87) (pc' := 88) rfl rfl ?_
      refine jx_next (pc := 88) (pc' := 89) rfl rfl ?_
      refine jx_getr (pc := 89) rfl ho ?_
      refine jx_callv (pc := 92) (o := o) (rest := []) rfl ⟨by decide, by decide⟩ rfl ho (Nat.le_of_ble_eq_true rfl) ?_
      obtain ⟨z16, hz_z16, K⟩ := Option.bind_eq_some_iff.mp K
      refine kM_isHere hT ho (jtR hT ho (k := 17) (c := 22) rfl) (by omega) hz_z16 ?_
      refine jx_ifne (pc := 95) rfl (fun hc17 => ?_) (fun hc17 => ?_)
      · replace K := (if_pos hc17).symm.trans K
        refine jx_next (pc := 98) (pc' := 99) rfl rfl ?_
        refine jx_next (pc := 99) (pc' := 100) rfl rfl ?_
        refine jx_getr (pc := 100) rfl ho ?_
        refine jx_callv (pc := 103) (o := o) (rest := []) rfl ⟨by decide, by decide⟩ rfl ho (Nat.le_of_ble_eq_true rfl) ?_
        obtain ⟨z18, hz_z18, K⟩ := Option.bind_eq_some_iff.mp K
        refine kM_isHere hT ho (jtR hT ho (k := 18) (c := 22) rfl) (by omega) hz_z18 ?_
        refine jx_ifne (pc := 106) rfl (fun hc19 => ?_) (fun hc19 => ?_)
        · replace K := (if_pos hc19).symm.trans K
          refine jx_next (pc := 109) (pc' := 110) rfl rfl ?_
          refine jx_next (pc := 110) (pc' := 111) rfl rfl ?_
          refine jx_getr (pc := 111) rfl ho ?_
          refine jx_callv (pc := 114) (o := o) (rest := []) rfl ⟨by decide, by decide⟩ rfl ho (Nat.le_of_ble_eq_true rfl) ?_
          obtain ⟨z20, hz_z20, K⟩ := Option.bind_eq_some_iff.mp K
          refine kM_isHere hT ho (jtR hT ho (k := 19) (c := 22) rfl) (by omega) hz_z20 ?_
          refine jx_ifne (pc := 117) rfl (fun hc21 => ?_) (fun hc21 => ?_)
          · replace K := (if_pos hc21).symm.trans K
            refine jx_next (pc := 120) (pc' := 121) rfl rfl ?_
            refine jx_next (pc := 121) (pc' := 122) rfl rfl ?_
            refine jx_getr (pc := 122) rfl ho ?_
            refine jx_callv (pc := 125) (o := o) (rest := []) rfl ⟨by decide, by decide⟩ rfl ho (Nat.le_of_ble_eq_true rfl) ?_
            obtain ⟨z22, hz_z22, K⟩ := Option.bind_eq_some_iff.mp K
            refine kM_isHere hT ho (jtR hT ho (k := 20) (c := 22) rfl) (by omega) hz_z22 ?_
            refine jx_ifne (pc := 128) rfl (fun hc23 => ?_) (fun hc23 => ?_)
            · replace K := (if_pos hc23).symm.trans K
              refine jx_next (pc := 131) (pc' := 132) rfl rfl ?_
              refine jx_next (pc := 132) (pc' := 133) rfl rfl ?_
              refine jx_getr (pc := 133) rfl ho ?_
              refine jx_callv (pc := 136) (o := o) (rest := []) rfl ⟨by decide, by decide⟩ rfl ho (Nat.le_of_ble_eq_true rfl) ?_
              obtain ⟨z24, hz_z24, K⟩ := Option.bind_eq_some_iff.mp K
              refine kM_isHere hT ho (jtR hT ho (k := 21) (c := 22) rfl) (by omega) hz_z24 ?_
              refine jx_ifeq (pc := 139) rfl (fun hc25 => ?_) (fun hc25 => ?_)
              · replace K := (if_pos hc25).symm.trans K
                refine jx_next (pc := 146) (pc' := 147) rfl rfl ?_
                refine jx_le (pl' := [some (.ref o), none]) (jle_v (jle_n jle_nil)) ?_
                exact kM_isOwnHere_j147 hT ho hd K HQ
              · replace K := (if_neg hc25).symm.trans K
                refine jx_le (pl' := [some (.ref o), none]) (jle_v (jle_n jle_nil)) ?_
                exact kM_isOwnHere_j142 hT ho hd K HQ
            · replace K := (if_neg hc23).symm.trans K
              refine jx_le (pl' := [some (.ref o), none]) (jle_v (jle_n jle_nil)) ?_
              exact kM_isOwnHere_j142 hT ho hd K HQ
          · replace K := (if_neg hc21).symm.trans K
            refine jx_le (pl' := [some (.ref o), none]) (jle_v (jle_n jle_nil)) ?_
            exact kM_isOwnHere_j142 hT ho hd K HQ
        · replace K := (if_neg hc19).symm.trans K
          refine jx_le (pl' := [some (.ref o), none]) (jle_v (jle_n jle_nil)) ?_
          exact kM_isOwnHere_j142 hT ho hd K HQ
      · replace K := (if_neg hc17).symm.trans K
        refine jx_le (pl' := [some (.ref o), none]) (jle_v (jle_n jle_nil)) ?_
        exact kM_isOwnHere_j142 hT ho hd K HQ
    · replace K := (if_neg hc15).symm.trans K
      refine jx_le (pl' := [some (.ref o), none]) (jle_v (jle_n jle_nil)) ?_
      exact kM_isOwnHere_j142 hT ho hd K HQ
  · replace K := (if_neg hc13).symm.trans K
    refine jx_le (pl' := [some (.ref o), none]) (jle_v (jle_n jle_nil)) ?_
    exact kM_isOwnHere_j142 hT ho hd K HQ
noncomputable def fM_isOwnHere_j66 (R : jR) (o : Nat) (h : jH) : Option (Int32 × jH) :=
  fM_isOwnHere_j71 R o 1 h
theorem kM_isOwnHere_j66 {X : jX} {d : Nat} {R : jR} {Q : Option Value → jS → Prop} {o : Nat} {h : jH} (hT : jTy R) (ho : jcl 176 o = 12) (hd : 2 ≤ (d + 1)) {z : Int32 × jH} (K : fM_isOwnHere_j66 R o h = some z) (HQ : Q (some (.int z.1)) (176, R, z.2)) :
    jEx X (d + 1) jc_207 66 [some (.ref o), none] [] (176, R, h) Q := by
  unfold fM_isOwnHere_j66 at K
  refine jx_next (pc := 66) (pc' := 67) rfl rfl ?_
  refine jx_next (pc := 67) (pc' := 71) rfl rfl ?_
  refine jx_le (pl' := [some (.ref o), none]) (jle_v (jle_n jle_nil)) ?_
  exact kM_isOwnHere_j71 hT ho hd K HQ
/-- AndGuestModel.isOwnHere()Z -/
noncomputable def fM_isOwnHere (R : jR) (o : Nat) (h : jH) : Option (Int32 × jH) :=
  (Option.bind (fM_isHere R o (R o 10) h) (fun (z1 : Int32 × jH) =>
  (if z1.1 = 0 then
  (Option.bind (fM_isHere R o (R o 11) z1.2) (fun (z3 : Int32 × jH) =>
  (if z3.1 = 0 then
  (Option.bind (fM_isHere R o (R o 12) z3.2) (fun (z5 : Int32 × jH) =>
  (if z5.1 = 0 then
  (Option.bind (fM_isHere R o (R o 13) z5.2) (fun (z7 : Int32 × jH) =>
  (if z7.1 = 0 then
  (Option.bind (fM_isHere R o (R o 14) z7.2) (fun (z9 : Int32 × jH) =>
  (if z9.1 = 0 then
  (Option.bind (fM_isHere R o (R o 15) z9.2) (fun (z11 : Int32 × jH) =>
  (if z11.1 = 0 then
  fM_isOwnHere_j71 R o 0 z11.2
  else
  fM_isOwnHere_j66 R o z11.2)))
  else
  fM_isOwnHere_j66 R o z9.2)))
  else
  fM_isOwnHere_j66 R o z7.2)))
  else
  fM_isOwnHere_j66 R o z5.2)))
  else
  fM_isOwnHere_j66 R o z3.2)))
  else
  fM_isOwnHere_j66 R o z1.2)))
theorem kM_isOwnHere {X : jX} {d : Nat} {R : jR} {Q : Option Value → jS → Prop} {o : Nat} {h : jH} (hT : jTy R) (ho : jcl 176 o = 12) (hd : 2 ≤ d) {z : Int32 × jH} (K : fM_isOwnHere R o h = some z) (HQ : Q (some (.int z.1)) (176, R, z.2)) :
    jCa X d 207 [.ref o] (176, R, h) Q := by
  obtain ⟨d, rfl⟩ : ∃ d9, d = d9 + 1 := ⟨d - 1, by omega⟩
  unfold fM_isOwnHere at K
  refine jCa_of (es := jc_207) (pl := [some (.ref o), none]) (M := jm_207) rfl rfl rfl rfl ?_
  refine jx_next (pc := 0) (pc' := 1) rfl rfl ?_
  refine jx_next (pc := 1) (pc' := 2) rfl rfl ?_
  refine jx_getr (pc := 2) rfl ho ?_
  refine jx_callv (pc := 5) (o := o) (rest := []) rfl ⟨by decide, by decide⟩ rfl ho (Nat.le_of_ble_eq_true rfl) ?_
  obtain ⟨z1, hz_z1, K⟩ := Option.bind_eq_some_iff.mp K
  refine kM_isHere hT ho (jtR hT ho (k := 10) (c := 22) rfl) (by omega) hz_z1 ?_
  refine jx_ifne (pc := 8) rfl (fun hc2 => ?_) (fun hc2 => ?_)
  · replace K := (if_pos hc2).symm.trans K
    refine jx_next (pc := 11) (pc' := 12) rfl rfl ?_
    refine jx_next (pc := 12) (pc' := 13) rfl rfl ?_
    refine jx_getr (pc := 13) rfl ho ?_
    refine jx_callv (pc := 16) (o := o) (rest := []) rfl ⟨by decide, by decide⟩ rfl ho (Nat.le_of_ble_eq_true rfl) ?_
    obtain ⟨z3, hz_z3, K⟩ := Option.bind_eq_some_iff.mp K
    refine kM_isHere hT ho (jtR hT ho (k := 11) (c := 22) rfl) (by omega) hz_z3 ?_
    refine jx_ifne (pc := 19) rfl (fun hc4 => ?_) (fun hc4 => ?_)
    · replace K := (if_pos hc4).symm.trans K
      refine jx_next (pc := 22) (pc' := 23) rfl rfl ?_
      refine jx_next (pc := 23) (pc' := 24) rfl rfl ?_
      refine jx_getr (pc := 24) rfl ho ?_
      refine jx_callv (pc := 27) (o := o) (rest := []) rfl ⟨by decide, by decide⟩ rfl ho (Nat.le_of_ble_eq_true rfl) ?_
      obtain ⟨z5, hz_z5, K⟩ := Option.bind_eq_some_iff.mp K
      refine kM_isHere hT ho (jtR hT ho (k := 12) (c := 22) rfl) (by omega) hz_z5 ?_
      refine jx_ifne (pc := 30) rfl (fun hc6 => ?_) (fun hc6 => ?_)
      · replace K := (if_pos hc6).symm.trans K
        refine jx_next (pc := 33) (pc' := 34) rfl rfl ?_
        refine jx_next (pc := 34) (pc' := 35) rfl rfl ?_
        refine jx_getr (pc := 35) rfl ho ?_
        refine jx_callv (pc := 38) (o := o) (rest := []) rfl ⟨by decide, by decide⟩ rfl ho (Nat.le_of_ble_eq_true rfl) ?_
        obtain ⟨z7, hz_z7, K⟩ := Option.bind_eq_some_iff.mp K
        refine kM_isHere hT ho (jtR hT ho (k := 13) (c := 22) rfl) (by omega) hz_z7 ?_
        refine jx_ifne (pc := 41) rfl (fun hc8 => ?_) (fun hc8 => ?_)
        · replace K := (if_pos hc8).symm.trans K
          refine jx_next (pc := 44) (pc' := 45) rfl rfl ?_
          refine jx_next (pc := 45) (pc' := 46) rfl rfl ?_
          refine jx_getr (pc := 46) rfl ho ?_
          refine jx_callv (pc := 49) (o := o) (rest := []) rfl ⟨by decide, by decide⟩ rfl ho (Nat.le_of_ble_eq_true rfl) ?_
          obtain ⟨z9, hz_z9, K⟩ := Option.bind_eq_some_iff.mp K
          refine kM_isHere hT ho (jtR hT ho (k := 14) (c := 22) rfl) (by omega) hz_z9 ?_
          refine jx_ifne (pc := 52) rfl (fun hc10 => ?_) (fun hc10 => ?_)
          · replace K := (if_pos hc10).symm.trans K
            refine jx_next (pc := 55) (pc' := 56) rfl rfl ?_
            refine jx_next (pc := 56) (pc' := 57) rfl rfl ?_
            refine jx_getr (pc := 57) rfl ho ?_
            refine jx_callv (pc := 60) (o := o) (rest := []) rfl ⟨by decide, by decide⟩ rfl ho (Nat.le_of_ble_eq_true rfl) ?_
            obtain ⟨z11, hz_z11, K⟩ := Option.bind_eq_some_iff.mp K
            refine kM_isHere hT ho (jtR hT ho (k := 15) (c := 22) rfl) (by omega) hz_z11 ?_
            refine jx_ifeq (pc := 63) rfl (fun hc12 => ?_) (fun hc12 => ?_)
            · replace K := (if_pos hc12).symm.trans K
              refine jx_next (pc := 70) (pc' := 71) rfl rfl ?_
              refine jx_le (pl' := [some (.ref o), none]) (jle_v (jle_n jle_nil)) ?_
              exact kM_isOwnHere_j71 hT ho hd K HQ
            · replace K := (if_neg hc12).symm.trans K
              refine jx_le (pl' := [some (.ref o), none]) (jle_v (jle_n jle_nil)) ?_
              exact kM_isOwnHere_j66 hT ho hd K HQ
          · replace K := (if_neg hc10).symm.trans K
            refine jx_le (pl' := [some (.ref o), none]) (jle_v (jle_n jle_nil)) ?_
            exact kM_isOwnHere_j66 hT ho hd K HQ
        · replace K := (if_neg hc8).symm.trans K
          refine jx_le (pl' := [some (.ref o), none]) (jle_v (jle_n jle_nil)) ?_
          exact kM_isOwnHere_j66 hT ho hd K HQ
      · replace K := (if_neg hc6).symm.trans K
        refine jx_le (pl' := [some (.ref o), none]) (jle_v (jle_n jle_nil)) ?_
        exact kM_isOwnHere_j66 hT ho hd K HQ
    · replace K := (if_neg hc4).symm.trans K
      refine jx_le (pl' := [some (.ref o), none]) (jle_v (jle_n jle_nil)) ?_
      exact kM_isOwnHere_j66 hT ho hd K HQ
  · replace K := (if_neg hc2).symm.trans K
    refine jx_le (pl' := [some (.ref o), none]) (jle_v (jle_n jle_nil)) ?_
    exact kM_isOwnHere_j66 hT ho hd K HQ
noncomputable def fM_name_j37 (R : jR) (o : Nat) (h : jH) : Option (Int64 × jH) :=
  some (0, (fM_fail R o 1 (h.1 o 2) h))
theorem kM_name_j37 {X : jX} {d : Nat} {R : jR} {Q : Option Value → jS → Prop} {o : Nat} {h : jH} (hT : jTy R) (ho : jcl 176 o = 12) (hd : 3 ≤ (d + 1)) {z : Int64 × jH} (K : fM_name_j37 R o h = some z) (HQ : Q (some (.long z.1)) (176, R, z.2)) :
    jEx X (d + 1) jc_206 37 [some (.ref o), none, none] [] (176, R, h) Q := by
  unfold fM_name_j37 at K
  refine jx_next (pc := 37) (pc' := 38) rfl rfl ?_
  refine jx_next (pc := 38) (pc' := 39) rfl rfl ?_
  refine jx_next (pc := 39) (pc' := 40) rfl rfl ?_
  refine jx_geti (pc := 40) rfl ho ?_
  refine jx_callv (pc := 43) (o := o) (rest := []) rfl ⟨by decide, by decide⟩ rfl ho (Nat.le_of_ble_eq_true rfl) ?_
  refine kM_fail hT ho (by omega) rfl ?_
  refine jx_next (pc := 46) (pc' := 47) rfl rfl ?_
  obtain rfl := Option.some.inj K
  exact jx_ret (pc := 47) rfl rfl HQ
noncomputable def fM_name_l58_b (R : jR) (o : Nat) (v1 : Int64) (h : jH) : Option ((Int64 × jH) ⊕ ((jH) ⊕ (Int64 × jH))) :=
  (if (h.1 o 2) < (h.1 o 3) then
  (if jin (h.1 o 2) (jsh (R o 0)).2 then
  (if (fM_isLetter (h.1 (R o 0) (h.1 o 2).toNatClampNeg)) = 0 then
  some (.inr (.inr (v1, h)))
  else
  (if ((h.1 o 2) - (h.1 o 35)) = 6 then
  some (.inr (.inl h))
  else
  (if jin (h.1 o 2) (jsh (R o 0)).2 then
  some (.inl ((((27 * v1) + ((h.1 (R o 0) (h.1 o 2).toNatClampNeg).toInt64)) - 97) + 1, jhI h o 2 ((h.1 o 2) + 1)))
  else none)))
  else none)
  else
  some (.inr (.inr (v1, h))))
noncomputable def fM_name_l58 (R : jR) (o : Nat) : (Int64 × jH) → Option ((Int64 × jH) ⊕ ((jH) ⊕ (Int64 × jH))) :=
  fun (s : Int64 × jH) => fM_name_l58_b R o s.1 s.2
theorem kM_name_l58_b {X : jX} {d : Nat} {R : jR} {Q : Option Value → jS → Prop} {o : Nat} {v1 : Int64} {h : jH} (hT : jTy R) (ho : jcl 176 o = 12) (hd : 3 ≤ (d + 1)) {z : (Int64 × jH) ⊕ ((jH) ⊕ (Int64 × jH))} (K : fM_name_l58_b R o v1 h = some z) (HL : ∀ s : Int64 × jH, z = .inl s → jEx X (d + 1) jc_206 58 [some (.ref o), some (.long s.1), none] [] (176, R, s.2) Q) (HE0 : ∀ x : jH, z = .inr (.inl x) → jEx X (d + 1) jc_206 98 [some (.ref o), none, none] [] (176, R, x) Q) (HE1 : ∀ x : Int64 × jH, z = .inr (.inr x) → jEx X (d + 1) jc_206 145 [some (.ref o), some (.long x.1), none] [] (176, R, x.2) Q) :
    jEx X (d + 1) jc_206 58 [some (.ref o), some (.long v1), none] [] (176, R, h) Q := by
  unfold fM_name_l58_b at K
  refine jx_next (pc := 58) (pc' := 59) rfl rfl ?_
  refine jx_geti (pc := 59) rfl ho ?_
  refine jx_next (pc := 62) (pc' := 63) rfl rfl ?_
  refine jx_geti (pc := 63) rfl ho ?_
  refine jx_icge (pc := 66) rfl (fun hc8 => ?_) (fun hc8 => ?_)
  · replace K := (if_pos hc8).symm.trans K
    refine jx_next (pc := 69) (pc' := 70) rfl rfl ?_
    refine jx_getr (pc := 70) rfl ho ?_
    refine jx_next (pc := 73) (pc' := 74) rfl rfl ?_
    refine jx_geti (pc := 74) rfl ho ?_
    obtain ⟨hg9, K⟩ := jguard K
    refine jx_iald (pc := 77) rfl (jtR hT ho (k := 0) (c := 20) rfl) hg9 ?_
    refine jx_calls (pc := 78) rfl (Nat.le_of_ble_eq_true rfl) (Nat.le_of_ble_eq_true rfl) ?_
    refine kM_isLetter  (by omega) rfl ?_
    refine jx_ifeq (pc := 81) rfl (fun hc10 => ?_) (fun hc10 => ?_)
    · replace K := (if_pos hc10).symm.trans K
      obtain rfl := Option.some.inj K
      refine jx_le (pl' := [some (.ref o), some (.long v1), none]) (jle_v (jle_v (jle_n jle_nil))) ?_
      exact HE1 _ rfl
    · replace K := (if_neg hc10).symm.trans K
      refine jx_next (pc := 84) (pc' := 85) rfl rfl ?_
      refine jx_geti (pc := 85) rfl ho ?_
      refine jx_next (pc := 88) (pc' := 89) rfl rfl ?_
      refine jx_geti (pc := 89) rfl ho ?_
      refine jx_next (pc := 92) (pc' := 93) rfl rfl ?_
      refine jx_next (pc := 93) (pc' := 95) rfl rfl ?_
      refine jx_icne (pc := 95) rfl (fun hc11 => ?_) (fun hc11 => ?_)
      · replace K := (if_pos hc11).symm.trans K
        obtain rfl := Option.some.inj K
        refine jx_le (pl' := [some (.ref o), none, none]) (jle_v (jle_n (jle_n jle_nil))) ?_
        exact HE0 _ rfl
      · replace K := (if_neg hc11).symm.trans K
        refine jx_next (pc := 109) (pc' := 112) rfl rfl ?_
        refine jx_next (pc := 112) (pc' := 113) rfl rfl ?_
        refine jx_next (pc := 113) (pc' := 114) rfl rfl ?_
        refine jx_next (pc := 114) (pc' := 115) rfl rfl ?_
        refine jx_getr (pc := 115) rfl ho ?_
        refine jx_next (pc := 118) (pc' := 119) rfl rfl ?_
        refine jx_geti (pc := 119) rfl ho ?_
        obtain ⟨hg12, K⟩ := jguard K
        refine jx_iald (pc := 122) rfl (jtR hT ho (k := 0) (c := 20) rfl) hg12 ?_
        refine jx_next (pc := 123) (pc' := 124) rfl rfl ?_
        refine jx_next (pc := 124) (pc' := 125) rfl rfl ?_
        refine jx_next (pc := 125) (pc' := 128) rfl rfl ?_
        refine jx_next (pc := 128) (pc' := 129) rfl rfl ?_
        refine jx_next (pc := 129) (pc' := 130) rfl rfl ?_
        refine jx_next (pc := 130) (pc' := 131) rfl rfl ?_
        refine jx_stln (pc := 131) (p2 := [some (.ref o), some (.long ((((27 * v1) + ((h.1 (R o 0) (h.1 o 2).toNatClampNeg).toInt64)) - 97) + 1)), none]) rfl (jlt rfl) rfl ?_
        refine jx_next (pc := 132) (pc' := 133) rfl rfl ?_
        refine jx_next (pc := 133) (pc' := 134) rfl rfl ?_
        refine jx_geti (pc := 134) rfl ho ?_
        refine jx_next (pc := 137) (pc' := 138) rfl rfl ?_
        refine jx_next (pc := 138) (pc' := 139) rfl rfl ?_
        refine jx_puti (pc := 139) rfl ho ?_
        refine jx_next (pc := 142) (pc' := 58) rfl rfl ?_
        obtain rfl := Option.some.inj K
        refine jx_le (pl' := [some (.ref o), some (.long ((((27 * v1) + ((h.1 (R o 0) (h.1 o 2).toNatClampNeg).toInt64)) - 97) + 1)), none]) (jle_v (jle_v (jle_n jle_nil))) ?_
        exact HL _ rfl
  · replace K := (if_neg hc8).symm.trans K
    obtain rfl := Option.some.inj K
    refine jx_le (pl' := [some (.ref o), some (.long v1), none]) (jle_v (jle_v (jle_n jle_nil))) ?_
    exact HE1 _ rfl
theorem kM_name_l58_w {X : jX} {d : Nat} {R : jR} {Q : Option Value → jS → Prop} {o : Nat} (hT : jTy R) (ho : jcl 176 o = 12) (hd : 3 ≤ (d + 1)) {s : Int64 × jH} {x : (jH) ⊕ (Int64 × jH)} (K : jlim (fM_name_l58 R o) s = some x) (HE0 : ∀ x0 : jH, x = .inl x0 → jEx X (d + 1) jc_206 98 [some (.ref o), none, none] [] (176, R, x0) Q) (HE1 : ∀ x0 : Int64 × jH, x = .inr x0 → jEx X (d + 1) jc_206 145 [some (.ref o), some (.long x0.1), none] [] (176, R, x0.2) Q) :
    jEx X (d + 1) jc_206 58 [some (.ref o), some (.long s.1), none] [] (176, R, s.2) Q := by
  refine jlim_ok (G := fun s : Int64 × jH => jEx X (d + 1) jc_206 58 [some (.ref o), some (.long s.1), none] [] (176, R, s.2) Q) (GX := fun x : (jH) ⊕ (Int64 × jH) => (∀ x0 : jH, x = .inl x0 → jEx X (d + 1) jc_206 98 [some (.ref o), none, none] [] (176, R, x0) Q) ∧ (∀ x0 : Int64 × jH, x = .inr x0 → jEx X (d + 1) jc_206 145 [some (.ref o), some (.long x0.1), none] [] (176, R, x0.2) Q)) (fun s z hz HL HE => ?_) K ⟨HE0, HE1⟩
  exact kM_name_l58_b hT ho hd hz HL (fun x hx => (HE _ hx).1 x rfl) (fun x hx => (HE _ hx).2 x rfl)
/-- AndGuestModel.name()J -/
noncomputable def fM_name (R : jR) (o : Nat) (h : jH) : Option (Int64 × jH) :=
  (if (h.1 o 5) = 0 then
  (Option.bind (fM_look R o h) (fun (z2 : Int32 × jH) =>
  (if (fM_isLetter z2.1) = 0 then
  fM_name_j37 R o z2.2
  else
  (if (z2.2.1 o 2) = (z2.2.1 o 4) then
  fM_name_j37 R o z2.2
  else
  (Option.bind (fM_isOwnHere R o z2.2) (fun (z6 : Int32 × jH) =>
  (if z6.1 = 0 then
  (Option.bind (jlim (fM_name_l58 R o) (0, jhI z6.2 o 35 (z6.2.1 o 2))) (fun (x13 : (jH) ⊕ (Int64 × jH)) => Sum.elim (fun (y13 : jH) =>
  some (0, (fM_fail R o 1 (y13.1 o 2) y13))) (fun (y13 : Int64 × jH) =>
  some (y13.1, jhI y13.2 o 4 (y13.2.1 o 2))) x13))
  else
  fM_name_j37 R o z6.2)))))))
  else
  some (0, h))
theorem kM_name {X : jX} {d : Nat} {R : jR} {Q : Option Value → jS → Prop} {o : Nat} {h : jH} (hT : jTy R) (ho : jcl 176 o = 12) (hd : 3 ≤ d) {z : Int64 × jH} (K : fM_name R o h = some z) (HQ : Q (some (.long z.1)) (176, R, z.2)) :
    jCa X d 206 [.ref o] (176, R, h) Q := by
  obtain ⟨d, rfl⟩ : ∃ d9, d = d9 + 1 := ⟨d - 1, by omega⟩
  unfold fM_name at K
  refine jCa_of (es := jc_206) (pl := [some (.ref o), none, none]) (M := jm_206) rfl rfl rfl rfl ?_
  refine jx_next (pc := 0) (pc' := 1) rfl rfl ?_
  refine jx_geti (pc := 1) rfl ho ?_
  refine jx_ifeq (pc := 4) rfl (fun hc1 => ?_) (fun hc1 => ?_)
  · replace K := (if_pos hc1).symm.trans K
    refine jx_next (pc := 9) (pc' := 10) rfl rfl ?_
    refine jx_callv (pc := 10) (o := o) (rest := []) rfl ⟨by decide, by decide⟩ rfl ho (Nat.le_of_ble_eq_true rfl) ?_
    obtain ⟨z2, hz_z2, K⟩ := Option.bind_eq_some_iff.mp K
    refine kM_look hT ho (by omega) hz_z2 ?_
    refine jx_calls (pc := 13) rfl (Nat.le_of_ble_eq_true rfl) (Nat.le_of_ble_eq_true rfl) ?_
    refine kM_isLetter  (by omega) rfl ?_
    refine jx_ifeq (pc := 16) rfl (fun hc3 => ?_) (fun hc3 => ?_)
    · replace K := (if_pos hc3).symm.trans K
      refine jx_le (pl' := [some (.ref o), none, none]) (jle_v (jle_n (jle_n jle_nil))) ?_
      exact kM_name_j37 hT ho hd K HQ
    · replace K := (if_neg hc3).symm.trans K
      refine jx_next (pc := 19) (pc' := 20) rfl rfl ?_
      refine jx_geti (pc := 20) rfl ho ?_
      refine jx_next (pc := 23) (pc' := 24) rfl rfl ?_
      refine jx_geti (pc := 24) rfl ho ?_
      refine jx_iceq (pc := 27) rfl (fun hc5 => ?_) (fun hc5 => ?_)
      · replace K := (if_pos hc5).symm.trans K
        refine jx_le (pl' := [some (.ref o), none, none]) (jle_v (jle_n (jle_n jle_nil))) ?_
        exact kM_name_j37 hT ho hd K HQ
      · replace K := (if_neg hc5).symm.trans K
        refine jx_next (pc := 30) (pc' := 31) rfl rfl ?_
        refine jx_callv (pc := 31) (o := o) (rest := []) rfl ⟨by decide, by decide⟩ rfl ho (Nat.le_of_ble_eq_true rfl) ?_
        obtain ⟨z6, hz_z6, K⟩ := Option.bind_eq_some_iff.mp K
        refine kM_isOwnHere hT ho (by omega) hz_z6 ?_
        refine jx_ifeq (pc := 34) rfl (fun hc7 => ?_) (fun hc7 => ?_)
        · replace K := (if_pos hc7).symm.trans K
          refine jx_next (pc := 48) (pc' := 49) rfl rfl ?_
          refine jx_next (pc := 49) (pc' := 50) rfl rfl ?_
          refine jx_geti (pc := 50) rfl ho ?_
          refine jx_puti (pc := 53) rfl ho ?_
          refine jx_next (pc := 56) (pc' := 57) rfl rfl ?_
          refine jx_stln (pc := 57) (p2 := [some (.ref o), some (.long 0), none]) rfl (jlt rfl) rfl ?_
          refine jx_le (pl' := [some (.ref o), some (.long 0), none]) (jle_v (jle_v (jle_n jle_nil))) ?_
          obtain ⟨x13, hz_x13, K⟩ := Option.bind_eq_some_iff.mp K
          refine kM_name_l58_w hT ho hd hz_x13 (fun y13 hx9 => ?_) (fun y13 hx9 => ?_)
          · subst hx9
            refine jx_next (pc := 98) (pc' := 99) rfl rfl ?_
            refine jx_next (pc := 99) (pc' := 100) rfl rfl ?_
            refine jx_next (pc := 100) (pc' := 101) rfl rfl ?_
            refine jx_geti (pc := 101) rfl ho ?_
            refine jx_callv (pc := 104) (o := o) (rest := []) rfl ⟨by decide, by decide⟩ rfl ho (Nat.le_of_ble_eq_true rfl) ?_
            refine kM_fail hT ho (by omega) rfl ?_
            refine jx_next (pc := 107) (pc' := 108) rfl rfl ?_
            obtain rfl := Option.some.inj K
            exact jx_ret (pc := 108) rfl rfl HQ
          · subst hx9
            refine jx_next (pc := 145) (pc' := 146) rfl rfl ?_
            refine jx_next (pc := 146) (pc' := 147) rfl rfl ?_
            refine jx_geti (pc := 147) rfl ho ?_
            refine jx_puti (pc := 150) rfl ho ?_
            refine jx_next (pc := 153) (pc' := 154) rfl rfl ?_
            obtain rfl := Option.some.inj K
            exact jx_ret (pc := 154) rfl rfl HQ
        · replace K := (if_neg hc7).symm.trans K
          refine jx_le (pl' := [some (.ref o), none, none]) (jle_v (jle_n (jle_n jle_nil))) ?_
          exact kM_name_j37 hT ho hd K HQ
  · replace K := (if_neg hc1).symm.trans K
    refine jx_next (pc := 7) (pc' := 8) rfl rfl ?_
    obtain rfl := Option.some.inj K
    exact jx_ret (pc := 8) rfl rfl HQ
noncomputable def fM_nameOf_l2_b (R : jR) (o : Nat) (v1 : Int64) (v3 : Int32) (h : jH) : Option ((Int32) ⊕ ((Int32) ⊕ (Unit))) :=
  (if jin 0 (jsh (R o 36)).2 then
  (if v3 < (h.1 (R o 36) (0 : Int32).toNatClampNeg) then
  (if jin v3 (jsh (R o 37)).2 then
  (if (h.2 (R o 37) v3.toNatClampNeg) = v1 then
  some (.inr (.inl v3))
  else
  some (.inl (v3 + 1)))
  else none)
  else
  some (.inr (.inr ())))
  else none)
noncomputable def fM_nameOf_l2 (R : jR) (o : Nat) (v1 : Int64) (h : jH) : Int32 → Option ((Int32) ⊕ ((Int32) ⊕ (Unit))) :=
  fun (s : Int32) => fM_nameOf_l2_b R o v1 s h
theorem kM_nameOf_l2_b {X : jX} {d : Nat} {R : jR} {Q : Option Value → jS → Prop} {o : Nat} {v1 : Int64} {v3 : Int32} {h : jH} (hT : jTy R) (ho : jcl 176 o = 12) (hd : 0 ≤ d) {z : (Int32) ⊕ ((Int32) ⊕ (Unit))} (K : fM_nameOf_l2_b R o v1 v3 h = some z) (HL : ∀ s : Int32, z = .inl s → jEx X d jc_208 2 [some (.ref o), some (.long v1), none, some (.int s)] [] (176, R, h) Q) (HE0 : ∀ x : Int32, z = .inr (.inl x) → jEx X d jc_208 23 [none, none, none, some (.int x)] [] (176, R, h) Q) (HE1 : ∀ x : Unit, z = .inr (.inr x) → jEx X d jc_208 31 [none, none, none, none] [] (176, R, h) Q) :
    jEx X d jc_208 2 [some (.ref o), some (.long v1), none, some (.int v3)] [] (176, R, h) Q := by
  unfold fM_nameOf_l2_b at K
  refine jx_next (pc := 2) (pc' := 3) rfl rfl ?_
  refine jx_next (pc := 3) (pc' := 4) rfl rfl ?_
  refine jx_getr (pc := 4) rfl ho ?_
  refine jx_next (pc := 7) (pc' := 8) rfl rfl ?_
  obtain ⟨hg1, K⟩ := jguard K
  refine jx_iald (pc := 8) rfl (jtR hT ho (k := 36) (c := 20) rfl) hg1 ?_
  refine jx_icge (pc := 9) rfl (fun hc2 => ?_) (fun hc2 => ?_)
  · replace K := (if_pos hc2).symm.trans K
    refine jx_next (pc := 12) (pc' := 13) rfl rfl ?_
    refine jx_getr (pc := 13) rfl ho ?_
    refine jx_next (pc := 16) (pc' := 17) rfl rfl ?_
    obtain ⟨hg3, K⟩ := jguard K
    refine jx_lald (pc := 17) rfl (jtR hT ho (k := 37) (c := 21) rfl) hg3 ?_
    refine jx_next (pc := 18) (pc' := 19) rfl rfl ?_
    refine jx_lcne (pc := 19) rfl rfl (fun hc4 => ?_) (fun hc4 => ?_)
    · replace K := (if_pos hc4).symm.trans K
      obtain rfl := Option.some.inj K
      refine jx_le (pl' := [none, none, none, some (.int v3)]) (jle_n (jle_n (jle_n (jle_v jle_nil)))) ?_
      exact HE0 _ rfl
    · replace K := (if_neg hc4).symm.trans K
      refine jx_inc (pc := 25) (x := v3) (p2 := [some (.ref o), some (.long v1), none, some (.int (v3 + 1))]) rfl rfl (jlt rfl) rfl ?_
      refine jx_next (pc := 28) (pc' := 2) rfl rfl ?_
      obtain rfl := Option.some.inj K
      refine jx_le (pl' := [some (.ref o), some (.long v1), none, some (.int (v3 + 1))]) (jle_v (jle_v (jle_n (jle_v jle_nil)))) ?_
      exact HL _ rfl
  · replace K := (if_neg hc2).symm.trans K
    obtain rfl := Option.some.inj K
    refine jx_le (pl' := [none, none, none, none]) (jle_n (jle_n (jle_n (jle_n jle_nil)))) ?_
    exact HE1 _ rfl
theorem kM_nameOf_l2_w {X : jX} {d : Nat} {R : jR} {Q : Option Value → jS → Prop} {o : Nat} {v1 : Int64} {h : jH} (hT : jTy R) (ho : jcl 176 o = 12) (hd : 0 ≤ d) {s : Int32} {x : (Int32) ⊕ (Unit)} (K : jlim (fM_nameOf_l2 R o v1 h) s = some x) (HE0 : ∀ x0 : Int32, x = .inl x0 → jEx X d jc_208 23 [none, none, none, some (.int x0)] [] (176, R, h) Q) (HE1 : ∀ x0 : Unit, x = .inr x0 → jEx X d jc_208 31 [none, none, none, none] [] (176, R, h) Q) :
    jEx X d jc_208 2 [some (.ref o), some (.long v1), none, some (.int s)] [] (176, R, h) Q := by
  refine jlim_ok (G := fun s : Int32 => jEx X d jc_208 2 [some (.ref o), some (.long v1), none, some (.int s)] [] (176, R, h) Q) (GX := fun x : (Int32) ⊕ (Unit) => (∀ x0 : Int32, x = .inl x0 → jEx X d jc_208 23 [none, none, none, some (.int x0)] [] (176, R, h) Q) ∧ (∀ x0 : Unit, x = .inr x0 → jEx X d jc_208 31 [none, none, none, none] [] (176, R, h) Q)) (fun s z hz HL HE => ?_) K ⟨HE0, HE1⟩
  exact kM_nameOf_l2_b hT ho hd hz HL (fun x hx => (HE _ hx).1 x rfl) (fun x hx => (HE _ hx).2 x rfl)
/-- AndGuestModel.nameOf(J)I -/
noncomputable def fM_nameOf (R : jR) (o : Nat) (v1 : Int64) (h : jH) : Option Int32 :=
  (Option.bind (jlim (fM_nameOf_l2 R o v1 h) 0) (fun (x5 : (Int32) ⊕ (Unit)) => Sum.elim (fun (y5 : Int32) =>
  some (y5 : Int32)) (fun (y5 : Unit) =>
  some ((-1) : Int32)) x5))
theorem kM_nameOf {X : jX} {d : Nat} {R : jR} {Q : Option Value → jS → Prop} {o : Nat} {v1 : Int64} {h : jH} (hT : jTy R) (ho : jcl 176 o = 12) (hd : 0 ≤ d) {z : Int32} (K : fM_nameOf R o v1 h = some z) (HQ : Q (some (.int z)) (176, R, h)) :
    jCa X d 208 [.ref o, .long v1] (176, R, h) Q := by
  unfold fM_nameOf at K
  refine jCa_of (es := jc_208) (pl := [some (.ref o), some (.long v1), none, none]) (M := jm_208) rfl rfl rfl rfl ?_
  refine jx_next (pc := 0) (pc' := 1) rfl rfl ?_
  refine jx_stin (pc := 1) (p2 := [some (.ref o), some (.long v1), none, some (.int 0)]) rfl (jlt rfl) rfl ?_
  refine jx_le (pl' := [some (.ref o), some (.long v1), none, some (.int 0)]) (jle_v (jle_v (jle_n (jle_v jle_nil)))) ?_
  obtain ⟨x5, hz_x5, K⟩ := Option.bind_eq_some_iff.mp K
  refine kM_nameOf_l2_w hT ho hd hz_x5 (fun y5 hx9 => ?_) (fun y5 hx9 => ?_)
  · subst hx9
    refine jx_next (pc := 23) (pc' := 24) rfl rfl ?_
    obtain rfl := Option.some.inj K
    exact jx_iret (pc := 24) rfl HQ
  · subst hx9
    refine jx_next (pc := 31) (pc' := 32) rfl rfl ?_
    obtain rfl := Option.some.inj K
    exact jx_iret (pc := 32) rfl HQ
noncomputable def fM_guestTold_j42 (R : jR) (o : Nat) (v2 : Int64) (h : jH) : Option jH :=
  (Option.bind (fM_asks R o (R o 15) h) (fun (z7 : jH) =>
  (Option.bind (fM_number R o 0 10 z7) (fun (z8 : Int32 × jH) =>
  (Option.bind (fM_asks R o (R o 16) z8.2) (fun (z9 : jH) =>
  (Option.bind (fM_number R o 0 99 z9) (fun (z10 : Int32 × jH) =>
  (Option.bind (fM_asks R o (R o 17) z10.2) (fun (z11 : jH) =>
  (Option.bind (fM_number R o 0 3 z11) (fun (z12 : Int32 × jH) =>
  (Option.bind (fM_asks R o (R o 18) z12.2) (fun (z13 : jH) =>
  (Option.bind (fM_number R o 0 99 z13) (fun (z14 : Int32 × jH) =>
  (if (z14.2.1 o 5) = 0 then
  (if jin 0 (jsh (R o 36)).2 then
  (if jin 0 (jsh (R o 36)).2 then
  (if jin (z14.2.1 (R o 36) (0 : Int32).toNatClampNeg) (jsh (R o 37)).2 then
  (if jin (4 * (z14.2.1 (R o 36) (0 : Int32).toNatClampNeg)) (jsh (R o 39)).2 then
  (if jin ((4 * (z14.2.1 (R o 36) (0 : Int32).toNatClampNeg)) + 1) (jsh (R o 39)).2 then
  (if jin ((4 * (z14.2.1 (R o 36) (0 : Int32).toNatClampNeg)) + 2) (jsh (R o 39)).2 then
  (if jin ((4 * (z14.2.1 (R o 36) (0 : Int32).toNatClampNeg)) + 3) (jsh (R o 39)).2 then
  (if jin 0 (jsh (R o 36)).2 then
  (if jin 0 (jsh (R o 36)).2 then
  some (jhI (jhI (jhI (jhI (jhI (jhL z14.2 (R o 37) (z14.2.1 (R o 36) (0 : Int32).toNatClampNeg).toNatClampNeg v2) (R o 39) (4 * (z14.2.1 (R o 36) (0 : Int32).toNatClampNeg)).toNatClampNeg z8.1) (R o 39) ((4 * (z14.2.1 (R o 36) (0 : Int32).toNatClampNeg)) + 1).toNatClampNeg z10.1) (R o 39) ((4 * (z14.2.1 (R o 36) (0 : Int32).toNatClampNeg)) + 2).toNatClampNeg (z12.1 + 1)) (R o 39) ((4 * (z14.2.1 (R o 36) (0 : Int32).toNatClampNeg)) + 3).toNatClampNeg z14.1) (R o 36) (0 : Int32).toNatClampNeg (((jhI (jhI (jhI (jhI (jhL z14.2 (R o 37) (z14.2.1 (R o 36) (0 : Int32).toNatClampNeg).toNatClampNeg v2) (R o 39) (4 * (z14.2.1 (R o 36) (0 : Int32).toNatClampNeg)).toNatClampNeg z8.1) (R o 39) ((4 * (z14.2.1 (R o 36) (0 : Int32).toNatClampNeg)) + 1).toNatClampNeg z10.1) (R o 39) ((4 * (z14.2.1 (R o 36) (0 : Int32).toNatClampNeg)) + 2).toNatClampNeg (z12.1 + 1)) (R o 39) ((4 * (z14.2.1 (R o 36) (0 : Int32).toNatClampNeg)) + 3).toNatClampNeg z14.1).1 (R o 36) (0 : Int32).toNatClampNeg) + 1))
  else none)
  else none)
  else none)
  else none)
  else none)
  else none)
  else none)
  else none)
  else none)
  else
  some z14.2)))))))))))))))))
theorem kM_guestTold_j42 {X : jX} {d : Nat} {R : jR} {Q : Option Value → jS → Prop} {o : Nat} {v2 : Int64} {h : jH} (hT : jTy R) (ho : jcl 176 o = 12) (hd : 4 ≤ (d + 1)) {z : jH} (K : fM_guestTold_j42 R o v2 h = some z) (HQ : Q none (176, R, z)) :
    jEx X (d + 1) jc_204 42 [some (.ref o), none, some (.long v2), none, none, none, none, none, none] [] (176, R, h) Q := by
  unfold fM_guestTold_j42 at K
  refine jx_next (pc := 42) (pc' := 43) rfl rfl ?_
  refine jx_next (pc := 43) (pc' := 44) rfl rfl ?_
  refine jx_getr (pc := 44) rfl ho ?_
  refine jx_callv (pc := 47) (o := o) (rest := []) rfl ⟨by decide, by decide⟩ rfl ho (Nat.le_of_ble_eq_true rfl) ?_
  obtain ⟨z7, hz_z7, K⟩ := Option.bind_eq_some_iff.mp K
  refine kM_asks hT ho (jtR hT ho (k := 15) (c := 22) rfl) (by omega) hz_z7 ?_
  refine jx_next (pc := 50) (pc' := 51) rfl rfl ?_
  refine jx_next (pc := 51) (pc' := 52) rfl rfl ?_
  refine jx_next (pc := 52) (pc' := 54) rfl rfl ?_
  refine jx_callv (pc := 54) (o := o) (rest := []) rfl ⟨by decide, by decide⟩ rfl ho (Nat.le_of_ble_eq_true rfl) ?_
  obtain ⟨z8, hz_z8, K⟩ := Option.bind_eq_some_iff.mp K
  refine kM_number hT ho (by omega) hz_z8 ?_
  refine jx_sti (pc := 57) (p2 := [some (.ref o), none, some (.long v2), none, some (.int z8.1), none, none, none, none]) rfl (jlt rfl) rfl ?_
  refine jx_next (pc := 59) (pc' := 60) rfl rfl ?_
  refine jx_next (pc := 60) (pc' := 61) rfl rfl ?_
  refine jx_getr (pc := 61) rfl ho ?_
  refine jx_callv (pc := 64) (o := o) (rest := []) rfl ⟨by decide, by decide⟩ rfl ho (Nat.le_of_ble_eq_true rfl) ?_
  obtain ⟨z9, hz_z9, K⟩ := Option.bind_eq_some_iff.mp K
  refine kM_asks hT ho (jtR hT ho (k := 16) (c := 22) rfl) (by omega) hz_z9 ?_
  refine jx_next (pc := 67) (pc' := 68) rfl rfl ?_
  refine jx_next (pc := 68) (pc' := 69) rfl rfl ?_
  refine jx_next (pc := 69) (pc' := 71) rfl rfl ?_
  refine jx_callv (pc := 71) (o := o) (rest := []) rfl ⟨by decide, by decide⟩ rfl ho (Nat.le_of_ble_eq_true rfl) ?_
  obtain ⟨z10, hz_z10, K⟩ := Option.bind_eq_some_iff.mp K
  refine kM_number hT ho (by omega) hz_z10 ?_
  refine jx_sti (pc := 74) (p2 := [some (.ref o), none, some (.long v2), none, some (.int z8.1), some (.int z10.1), none, none, none]) rfl (jlt rfl) rfl ?_
  refine jx_next (pc := 76) (pc' := 77) rfl rfl ?_
  refine jx_next (pc := 77) (pc' := 78) rfl rfl ?_
  refine jx_getr (pc := 78) rfl ho ?_
  refine jx_callv (pc := 81) (o := o) (rest := []) rfl ⟨by decide, by decide⟩ rfl ho (Nat.le_of_ble_eq_true rfl) ?_
  obtain ⟨z11, hz_z11, K⟩ := Option.bind_eq_some_iff.mp K
  refine kM_asks hT ho (jtR hT ho (k := 17) (c := 22) rfl) (by omega) hz_z11 ?_
  refine jx_next (pc := 84) (pc' := 85) rfl rfl ?_
  refine jx_next (pc := 85) (pc' := 86) rfl rfl ?_
  refine jx_next (pc := 86) (pc' := 87) rfl rfl ?_
  refine jx_callv (pc := 87) (o := o) (rest := []) rfl ⟨by decide, by decide⟩ rfl ho (Nat.le_of_ble_eq_true rfl) ?_
  obtain ⟨z12, hz_z12, K⟩ := Option.bind_eq_some_iff.mp K
  refine kM_number hT ho (by omega) hz_z12 ?_
  refine jx_sti (pc := 90) (p2 := [some (.ref o), none, some (.long v2), none, some (.int z8.1), some (.int z10.1), some (.int z12.1), none, none]) rfl (jlt rfl) rfl ?_
  refine jx_next (pc := 92) (pc' := 93) rfl rfl ?_
  refine jx_next (pc := 93) (pc' := 94) rfl rfl ?_
  refine jx_getr (pc := 94) rfl ho ?_
  refine jx_callv (pc := 97) (o := o) (rest := []) rfl ⟨by decide, by decide⟩ rfl ho (Nat.le_of_ble_eq_true rfl) ?_
  obtain ⟨z13, hz_z13, K⟩ := Option.bind_eq_some_iff.mp K
  refine kM_asks hT ho (jtR hT ho (k := 18) (c := 22) rfl) (by omega) hz_z13 ?_
  refine jx_next (pc := 100) (pc' := 101) rfl rfl ?_
  refine jx_next (pc := 101) (pc' := 102) rfl rfl ?_
  refine jx_next (pc := 102) (pc' := 104) rfl rfl ?_
  refine jx_callv (pc := 104) (o := o) (rest := []) rfl ⟨by decide, by decide⟩ rfl ho (Nat.le_of_ble_eq_true rfl) ?_
  obtain ⟨z14, hz_z14, K⟩ := Option.bind_eq_some_iff.mp K
  refine kM_number hT ho (by omega) hz_z14 ?_
  refine jx_sti (pc := 107) (p2 := [some (.ref o), none, some (.long v2), none, some (.int z8.1), some (.int z10.1), some (.int z12.1), some (.int z14.1), none]) rfl (jlt rfl) rfl ?_
  refine jx_next (pc := 109) (pc' := 110) rfl rfl ?_
  refine jx_geti (pc := 110) rfl ho ?_
  refine jx_ifeq (pc := 113) rfl (fun hc15 => ?_) (fun hc15 => ?_)
  · replace K := (if_pos hc15).symm.trans K
    refine jx_next (pc := 117) (pc' := 118) rfl rfl ?_
    refine jx_next (pc := 118) (pc' := 119) rfl rfl ?_
    refine jx_getr (pc := 119) rfl ho ?_
    refine jx_next (pc := 122) (pc' := 123) rfl rfl ?_
    obtain ⟨hg16, K⟩ := jguard K
    refine jx_iald (pc := 123) rfl (jtR hT ho (k := 36) (c := 20) rfl) hg16 ?_
    refine jx_next (pc := 124) (pc' := 125) rfl rfl ?_
    refine jx_sti (pc := 125) (p2 := [some (.ref o), none, some (.long v2), none, some (.int z8.1), some (.int z10.1), some (.int z12.1), some (.int z14.1), some (.int (4 * (z14.2.1 (R o 36) (0 : Int32).toNatClampNeg)))]) rfl (jlt rfl) rfl ?_
    refine jx_next (pc := 127) (pc' := 128) rfl rfl ?_
    refine jx_getr (pc := 128) rfl ho ?_
    refine jx_next (pc := 131) (pc' := 132) rfl rfl ?_
    refine jx_getr (pc := 132) rfl ho ?_
    refine jx_next (pc := 135) (pc' := 136) rfl rfl ?_
    obtain ⟨hg17, K⟩ := jguard K
    refine jx_iald (pc := 136) rfl (jtR hT ho (k := 36) (c := 20) rfl) hg17 ?_
    refine jx_next (pc := 137) (pc' := 138) rfl rfl ?_
    obtain ⟨hg18, K⟩ := jguard K
    refine jx_last (pc := 138) rfl (jtR hT ho (k := 37) (c := 21) rfl) hg18 ?_
    refine jx_next (pc := 139) (pc' := 140) rfl rfl ?_
    refine jx_getr (pc := 140) rfl ho ?_
    refine jx_next (pc := 143) (pc' := 145) rfl rfl ?_
    refine jx_next (pc := 145) (pc' := 147) rfl rfl ?_
    obtain ⟨hg19, K⟩ := jguard K
    refine jx_iast (pc := 147) rfl (jtR hT ho (k := 39) (c := 20) rfl) hg19 ?_
    refine jx_next (pc := 148) (pc' := 149) rfl rfl ?_
    refine jx_getr (pc := 149) rfl ho ?_
    refine jx_next (pc := 152) (pc' := 154) rfl rfl ?_
    refine jx_next (pc := 154) (pc' := 155) rfl rfl ?_
    refine jx_next (pc := 155) (pc' := 156) rfl rfl ?_
    refine jx_next (pc := 156) (pc' := 158) rfl rfl ?_
    obtain ⟨hg20, K⟩ := jguard K
    refine jx_iast (pc := 158) rfl (jtR hT ho (k := 39) (c := 20) rfl) hg20 ?_
    refine jx_next (pc := 159) (pc' := 160) rfl rfl ?_
    refine jx_getr (pc := 160) rfl ho ?_
    refine jx_next (pc := 163) (pc' := 165) rfl rfl ?_
    refine jx_next (pc := 165) (pc' := 166) rfl rfl ?_
    refine jx_next (pc := 166) (pc' := 167) rfl rfl ?_
    refine jx_next (pc := 167) (pc' := 169) rfl rfl ?_
    refine jx_next (pc := 169) (pc' := 170) rfl rfl ?_
    refine jx_next (pc := 170) (pc' := 171) rfl rfl ?_
    obtain ⟨hg21, K⟩ := jguard K
    refine jx_iast (pc := 171) rfl (jtR hT ho (k := 39) (c := 20) rfl) hg21 ?_
    refine jx_next (pc := 172) (pc' := 173) rfl rfl ?_
    refine jx_getr (pc := 173) rfl ho ?_
    refine jx_next (pc := 176) (pc' := 178) rfl rfl ?_
    refine jx_next (pc := 178) (pc' := 179) rfl rfl ?_
    refine jx_next (pc := 179) (pc' := 180) rfl rfl ?_
    refine jx_next (pc := 180) (pc' := 182) rfl rfl ?_
    obtain ⟨hg22, K⟩ := jguard K
    refine jx_iast (pc := 182) rfl (jtR hT ho (k := 39) (c := 20) rfl) hg22 ?_
    refine jx_next (pc := 183) (pc' := 184) rfl rfl ?_
    refine jx_getr (pc := 184) rfl ho ?_
    refine jx_next (pc := 187) (pc' := 188) rfl rfl ?_
    refine jx_next (pc := 188) (pc' := 189) rfl rfl ?_
    obtain ⟨hg23, K⟩ := jguard K
    refine jx_iald (pc := 189) rfl (jtR hT ho (k := 36) (c := 20) rfl) hg23 ?_
    refine jx_next (pc := 190) (pc' := 191) rfl rfl ?_
    refine jx_next (pc := 191) (pc' := 192) rfl rfl ?_
    obtain ⟨hg24, K⟩ := jguard K
    refine jx_iast (pc := 192) rfl (jtR hT ho (k := 36) (c := 20) rfl) hg24 ?_
    obtain rfl := Option.some.inj K
    exact jx_ret (pc := 193) rfl rfl HQ
  · replace K := (if_neg hc15).symm.trans K
    obtain rfl := Option.some.inj K
    exact jx_ret (pc := 116) rfl rfl HQ
/-- AndGuestModel.guestTold(I)V -/
noncomputable def fM_guestTold (R : jR) (o : Nat) (v1 : Int32) (h : jH) : Option jH :=
  (Option.bind (fM_isFull R o 0 8 v1 h) (fun (z1 : Int32 × jH) =>
  (if z1.1 = 0 then
  (Option.bind (fM_name R o z1.2) (fun (z3 : Int64 × jH) =>
  (if (z3.2.1 o 5) = 0 then
  (Option.bind (fM_nameOf R o z3.1 z3.2) (fun (z5 : Int32) =>
  (if z5 = (-1) then
  fM_guestTold_j42 R o z3.1 z3.2
  else
  fM_guestTold_j42 R o z3.1 (fM_fail R o 3 (z3.2.1 o 35) z3.2))))
  else
  fM_guestTold_j42 R o z3.1 z3.2)))
  else
  some z1.2)))
theorem kM_guestTold {X : jX} {d : Nat} {R : jR} {Q : Option Value → jS → Prop} {o : Nat} {v1 : Int32} {h : jH} (hT : jTy R) (ho : jcl 176 o = 12) (hd : 4 ≤ d) {z : jH} (K : fM_guestTold R o v1 h = some z) (HQ : Q none (176, R, z)) :
    jCa X d 204 [.ref o, .int v1] (176, R, h) Q := by
  obtain ⟨d, rfl⟩ : ∃ d9, d = d9 + 1 := ⟨d - 1, by omega⟩
  unfold fM_guestTold at K
  refine jCa_of (es := jc_204) (pl := [some (.ref o), some (.int v1), none, none, none, none, none, none, none]) (M := jm_204) rfl rfl rfl rfl ?_
  refine jx_next (pc := 0) (pc' := 1) rfl rfl ?_
  refine jx_next (pc := 1) (pc' := 2) rfl rfl ?_
  refine jx_next (pc := 2) (pc' := 4) rfl rfl ?_
  refine jx_next (pc := 4) (pc' := 5) rfl rfl ?_
  refine jx_callv (pc := 5) (o := o) (rest := []) rfl ⟨by decide, by decide⟩ rfl ho (Nat.le_of_ble_eq_true rfl) ?_
  obtain ⟨z1, hz_z1, K⟩ := Option.bind_eq_some_iff.mp K
  refine kM_isFull hT ho (by omega) hz_z1 ?_
  refine jx_ifeq (pc := 8) rfl (fun hc2 => ?_) (fun hc2 => ?_)
  · replace K := (if_pos hc2).symm.trans K
    refine jx_next (pc := 12) (pc' := 13) rfl rfl ?_
    refine jx_callv (pc := 13) (o := o) (rest := []) rfl ⟨by decide, by decide⟩ rfl ho (Nat.le_of_ble_eq_true rfl) ?_
    obtain ⟨z3, hz_z3, K⟩ := Option.bind_eq_some_iff.mp K
    refine kM_name hT ho (by omega) hz_z3 ?_
    refine jx_stln (pc := 16) (p2 := [some (.ref o), some (.int v1), some (.long z3.1), none, none, none, none, none, none]) rfl (jlt rfl) rfl ?_
    refine jx_next (pc := 17) (pc' := 18) rfl rfl ?_
    refine jx_geti (pc := 18) rfl ho ?_
    refine jx_ifne (pc := 21) rfl (fun hc4 => ?_) (fun hc4 => ?_)
    · replace K := (if_pos hc4).symm.trans K
      refine jx_next (pc := 24) (pc' := 25) rfl rfl ?_
      refine jx_next (pc := 25) (pc' := 26) rfl rfl ?_
      refine jx_callv (pc := 26) (o := o) (rest := []) rfl ⟨by decide, by decide⟩ rfl ho (Nat.le_of_ble_eq_true rfl) ?_
      obtain ⟨z5, hz_z5, K⟩ := Option.bind_eq_some_iff.mp K
      refine kM_nameOf hT ho (by omega) hz_z5 ?_
      refine jx_next (pc := 29) (pc' := 30) rfl rfl ?_
      refine jx_iceq (pc := 30) rfl (fun hc6 => ?_) (fun hc6 => ?_)
      · replace K := (if_pos hc6).symm.trans K
        refine jx_le (pl' := [some (.ref o), none, some (.long z3.1), none, none, none, none, none, none]) (jle_v (jle_n (jle_v (jle_n (jle_n (jle_n (jle_n (jle_n (jle_n jle_nil))))))))) ?_
        exact kM_guestTold_j42 hT ho hd K HQ
      · replace K := (if_neg hc6).symm.trans K
        refine jx_next (pc := 33) (pc' := 34) rfl rfl ?_
        refine jx_next (pc := 34) (pc' := 35) rfl rfl ?_
        refine jx_next (pc := 35) (pc' := 36) rfl rfl ?_
        refine jx_geti (pc := 36) rfl ho ?_
        refine jx_callv (pc := 39) (o := o) (rest := []) rfl ⟨by decide, by decide⟩ rfl ho (Nat.le_of_ble_eq_true rfl) ?_
        refine kM_fail hT ho (by omega) rfl ?_
        refine jx_le (pl' := [some (.ref o), none, some (.long z3.1), none, none, none, none, none, none]) (jle_v (jle_n (jle_v (jle_n (jle_n (jle_n (jle_n (jle_n (jle_n jle_nil))))))))) ?_
        exact kM_guestTold_j42 hT ho hd K HQ
    · replace K := (if_neg hc4).symm.trans K
      refine jx_le (pl' := [some (.ref o), none, some (.long z3.1), none, none, none, none, none, none]) (jle_v (jle_n (jle_v (jle_n (jle_n (jle_n (jle_n (jle_n (jle_n jle_nil))))))))) ?_
      exact kM_guestTold_j42 hT ho hd K HQ
  · replace K := (if_neg hc2).symm.trans K
    obtain rfl := Option.some.inj K
    exact jx_ret (pc := 11) rfl rfl HQ
