noncomputable def fM_safe_l25_j97 (v1 : Int32) (v2 : Int32) (v3 : Int32) (h : jH) : Option ((Int32 × Int32) ⊕ (Int32)) :=
  some (.inl (v2, v3 + 1))
theorem kM_safe_l25_j97 {X : jX} {dd : Nat} {p d : Nat} {q : Nat → Nat} {Q : Option Value → jS → Prop} {v1 : Int32} {v2 : Int32} {v3 : Int32} {h : jH}  (hd : 2 ≤ (dd + 1)) {z : (Int32 × Int32) ⊕ (Int32)} (K : fM_safe_l25_j97 v1 v2 v3 h = some z) (HL : ∀ s : Int32 × Int32, z = .inl s → jEx X (dd + 1) jc_277 25 [some (.ref 110), some (.int v1), some (.int s.1), some (.int s.2), none] [] (176, jRf p d q, h) Q) (HE0 : ∀ x : Int32, z = .inr x → jEx X (dd + 1) jc_277 103 [some (.ref 110), some (.int v1), some (.int x), none, none] [] (176, jRf p d q, h) Q) :
    jEx X (dd + 1) jc_277 97 [some (.ref 110), some (.int v1), some (.int v2), some (.int v3), none] [] (176, jRf p d q, h) Q := by
  unfold fM_safe_l25_j97 at K
  refine jx_inc (pc := 97) (x := v3) (p2 := [some (.ref 110), some (.int v1), some (.int v2), some (.int (v3 + 1)), none]) rfl rfl (jlt rfl) rfl ?_
  refine jx_next (pc := 100) (pc' := 25) rfl rfl ?_
  obtain rfl := Option.some.inj K
  refine jx_le (pl' := [some (.ref 110), some (.int v1), some (.int v2), some (.int (v3 + 1)), none]) (jle_v (jle_v (jle_v (jle_v (jle_n jle_nil))))) ?_
  exact HL (v2, v3 + 1) rfl
noncomputable def fM_safe_l25_j95 (v1 : Int32) (v3 : Int32) (h : jH) : Option ((Int32 × Int32) ⊕ (Int32)) :=
  fM_safe_l25_j97  v1 v3 v3 h
theorem kM_safe_l25_j95 {X : jX} {dd : Nat} {p d : Nat} {q : Nat → Nat} {Q : Option Value → jS → Prop} {v1 : Int32} {v3 : Int32} {h : jH}  (hd : 2 ≤ (dd + 1)) {z : (Int32 × Int32) ⊕ (Int32)} (K : fM_safe_l25_j95 v1 v3 h = some z) (HL : ∀ s : Int32 × Int32, z = .inl s → jEx X (dd + 1) jc_277 25 [some (.ref 110), some (.int v1), some (.int s.1), some (.int s.2), none] [] (176, jRf p d q, h) Q) (HE0 : ∀ x : Int32, z = .inr x → jEx X (dd + 1) jc_277 103 [some (.ref 110), some (.int v1), some (.int x), none, none] [] (176, jRf p d q, h) Q) :
    jEx X (dd + 1) jc_277 95 [some (.ref 110), some (.int v1), none, some (.int v3), none] [] (176, jRf p d q, h) Q := by
  unfold fM_safe_l25_j95 at K
  refine jx_next (pc := 95) (pc' := 96) rfl rfl ?_
  refine jx_stin (pc := 96) (p2 := [some (.ref 110), some (.int v1), some (.int v3), some (.int v3), none]) rfl (jlt rfl) rfl ?_
  refine jx_le (pl' := [some (.ref 110), some (.int v1), some (.int v3), some (.int v3), none]) (jle_v (jle_v (jle_v (jle_v (jle_n jle_nil))))) ?_
  exact kM_safe_l25_j97  hd K HL HE0
noncomputable def fM_safe_l25_b (v1 : Int32) (v2 : Int32) (v3 : Int32) (h : jH) : Option ((Int32 × Int32) ⊕ (Int32)) :=
  (Option.bind (fM_allGuests h) (fun (z4 : Int32) =>
  (if z4 < v3 then
  some (.inr v2)
  else
  (Option.bind (fM_isWhole v3 0 h) (fun (z6 : Int32) =>
  (if z6 = 0 then
  fM_safe_l25_j97  v1 v2 v3 h
  else
  (Option.bind (fM_sizeBy v3 h) (fun (z8 : Int32) =>
  (if jin 4 8 then
  (if (h.1 140 (4 : Int32).toNatClampNeg) < z8 then
  fM_safe_l25_j97  v1 v2 v3 h
  else
  (Option.bind (fM_slights v2 h) (fun (z11 : Int32) =>
  (Option.bind (fM_slights v3 h) (fun (z12 : Int32) =>
  (if 0 < (z11 - z12) then
  fM_safe_l25_j95  v1 v3 h
  else
  (if (z11 - z12) = 0 then
  (Option.bind (fM_joyBy v3 h) (fun (z15 : Int32) =>
  (Option.bind (fM_joyBy v2 h) (fun (z16 : Int32) =>
  (if z16 < z15 then
  fM_safe_l25_j95  v1 v3 h
  else
  fM_safe_l25_j97  v1 v2 v3 h)))))
  else
  fM_safe_l25_j97  v1 v2 v3 h)))))))
  else none)))))))))
noncomputable def fM_safe_l25 (v1 : Int32) (h : jH) : (Int32 × Int32) → Option ((Int32 × Int32) ⊕ (Int32)) :=
  fun (s : Int32 × Int32) => fM_safe_l25_b v1 s.1 s.2 h
theorem kM_safe_l25_b {X : jX} {dd : Nat} {p d : Nat} {q : Nat → Nat} {Q : Option Value → jS → Prop} {v1 : Int32} {v2 : Int32} {v3 : Int32} {h : jH}  (hd : 2 ≤ (dd + 1)) {z : (Int32 × Int32) ⊕ (Int32)} (K : fM_safe_l25_b v1 v2 v3 h = some z) (HL : ∀ s : Int32 × Int32, z = .inl s → jEx X (dd + 1) jc_277 25 [some (.ref 110), some (.int v1), some (.int s.1), some (.int s.2), none] [] (176, jRf p d q, h) Q) (HE0 : ∀ x : Int32, z = .inr x → jEx X (dd + 1) jc_277 103 [some (.ref 110), some (.int v1), some (.int x), none, none] [] (176, jRf p d q, h) Q) :
    jEx X (dd + 1) jc_277 25 [some (.ref 110), some (.int v1), some (.int v2), some (.int v3), none] [] (176, jRf p d q, h) Q := by
  unfold fM_safe_l25_b at K
  refine jx_next (pc := 25) (pc' := 26) rfl rfl ?_
  refine jx_next (pc := 26) (pc' := 27) rfl rfl ?_
  refine jx_callv (pc := 27) (o := 110) (rest := [.int v3]) rfl ⟨by decide, by decide⟩ rfl jko_110 (Nat.le_of_ble_eq_true rfl) ?_
  obtain ⟨z4, hz_z4, K⟩ := Option.bind_eq_some_iff.mp K
  refine kM_allGuests  (by omega) hz_z4 ?_
  refine jx_icgt (pc := 30) rfl (fun hc5 => ?_) (fun hc5 => ?_)
  · replace K := (if_pos hc5).symm.trans K
    obtain rfl := Option.some.inj K
    refine jx_le (pl' := [some (.ref 110), some (.int v1), some (.int v2), none, none]) (jle_v (jle_v (jle_v (jle_n (jle_n jle_nil))))) ?_
    exact HE0 _ rfl
  · replace K := (if_neg hc5).symm.trans K
    refine jx_next (pc := 33) (pc' := 34) rfl rfl ?_
    refine jx_next (pc := 34) (pc' := 35) rfl rfl ?_
    refine jx_next (pc := 35) (pc' := 36) rfl rfl ?_
    refine jx_callv (pc := 36) (o := 110) (rest := []) rfl ⟨by decide, by decide⟩ rfl jko_110 (Nat.le_of_ble_eq_true rfl) ?_
    obtain ⟨z6, hz_z6, K⟩ := Option.bind_eq_some_iff.mp K
    refine kM_isWhole  (by omega) hz_z6 ?_
    refine jx_ifeq (pc := 39) rfl (fun hc7 => ?_) (fun hc7 => ?_)
    · replace K := (if_pos hc7).symm.trans K
      refine jx_le (pl' := [some (.ref 110), some (.int v1), some (.int v2), some (.int v3), none]) (jle_v (jle_v (jle_v (jle_v (jle_n jle_nil))))) ?_
      exact kM_safe_l25_j97  hd K HL HE0
    · replace K := (if_neg hc7).symm.trans K
      refine jx_next (pc := 42) (pc' := 43) rfl rfl ?_
      refine jx_next (pc := 43) (pc' := 44) rfl rfl ?_
      refine jx_callv (pc := 44) (o := 110) (rest := []) rfl ⟨by decide, by decide⟩ rfl jko_110 (Nat.le_of_ble_eq_true rfl) ?_
      obtain ⟨z8, hz_z8, K⟩ := Option.bind_eq_some_iff.mp K
      refine kM_sizeBy  (by omega) hz_z8 ?_
      refine jx_next (pc := 47) (pc' := 48) rfl rfl ?_
      refine jx_getr2 (pc := 48) rfl jko_110 jr_12_38 ?_
      refine jx_next (pc := 51) (pc' := 52) rfl rfl ?_
      obtain ⟨hg9, K⟩ := jguard K
      refine jx_iald2 (pc := 52) rfl jko_140 jno_140 hg9 ?_
      refine jx_icle (pc := 53) rfl (fun hc10 => ?_) (fun hc10 => ?_)
      · replace K := (if_pos hc10).symm.trans K
        refine jx_next (pc := 56) (pc' := 97) rfl rfl ?_
        refine jx_le (pl' := [some (.ref 110), some (.int v1), some (.int v2), some (.int v3), none]) (jle_v (jle_v (jle_v (jle_v (jle_n jle_nil))))) ?_
        exact kM_safe_l25_j97  hd K HL HE0
      · replace K := (if_neg hc10).symm.trans K
        refine jx_next (pc := 59) (pc' := 60) rfl rfl ?_
        refine jx_next (pc := 60) (pc' := 61) rfl rfl ?_
        refine jx_callv (pc := 61) (o := 110) (rest := []) rfl ⟨by decide, by decide⟩ rfl jko_110 (Nat.le_of_ble_eq_true rfl) ?_
        obtain ⟨z11, hz_z11, K⟩ := Option.bind_eq_some_iff.mp K
        refine kM_slights  (by omega) hz_z11 ?_
        refine jx_next (pc := 64) (pc' := 65) rfl rfl ?_
        refine jx_next (pc := 65) (pc' := 66) rfl rfl ?_
        refine jx_callv (pc := 66) (o := 110) (rest := [.int z11]) rfl ⟨by decide, by decide⟩ rfl jko_110 (Nat.le_of_ble_eq_true rfl) ?_
        obtain ⟨z12, hz_z12, K⟩ := Option.bind_eq_some_iff.mp K
        refine kM_slights  (by omega) hz_z12 ?_
        refine jx_next (pc := 69) (pc' := 70) rfl rfl ?_
        refine jx_sti (pc := 70) (p2 := [some (.ref 110), some (.int v1), some (.int v2), some (.int v3), some (.int (z11 - z12))]) rfl (jlt rfl) rfl ?_
        refine jx_next (pc := 72) (pc' := 74) rfl rfl ?_
        refine jx_ifgt (pc := 74) rfl (fun hc13 => ?_) (fun hc13 => ?_)
        · replace K := (if_pos hc13).symm.trans K
          refine jx_le (pl' := [some (.ref 110), some (.int v1), none, some (.int v3), none]) (jle_v (jle_v (jle_n (jle_v (jle_n jle_nil))))) ?_
          exact kM_safe_l25_j95  hd K HL HE0
        · replace K := (if_neg hc13).symm.trans K
          refine jx_next (pc := 77) (pc' := 79) rfl rfl ?_
          refine jx_ifne (pc := 79) rfl (fun hc14 => ?_) (fun hc14 => ?_)
          · replace K := (if_pos hc14).symm.trans K
            refine jx_next (pc := 82) (pc' := 83) rfl rfl ?_
            refine jx_next (pc := 83) (pc' := 84) rfl rfl ?_
            refine jx_callv (pc := 84) (o := 110) (rest := []) rfl ⟨by decide, by decide⟩ rfl jko_110 (Nat.le_of_ble_eq_true rfl) ?_
            obtain ⟨z15, hz_z15, K⟩ := Option.bind_eq_some_iff.mp K
            refine kM_joyBy  (by omega) hz_z15 ?_
            refine jx_next (pc := 87) (pc' := 88) rfl rfl ?_
            refine jx_next (pc := 88) (pc' := 89) rfl rfl ?_
            refine jx_callv (pc := 89) (o := 110) (rest := [.int z15]) rfl ⟨by decide, by decide⟩ rfl jko_110 (Nat.le_of_ble_eq_true rfl) ?_
            obtain ⟨z16, hz_z16, K⟩ := Option.bind_eq_some_iff.mp K
            refine kM_joyBy  (by omega) hz_z16 ?_
            refine jx_icle (pc := 92) rfl (fun hc17 => ?_) (fun hc17 => ?_)
            · replace K := (if_pos hc17).symm.trans K
              refine jx_le (pl' := [some (.ref 110), some (.int v1), none, some (.int v3), none]) (jle_v (jle_v (jle_n (jle_v (jle_n jle_nil))))) ?_
              exact kM_safe_l25_j95  hd K HL HE0
            · replace K := (if_neg hc17).symm.trans K
              refine jx_le (pl' := [some (.ref 110), some (.int v1), some (.int v2), some (.int v3), none]) (jle_v (jle_v (jle_v (jle_v (jle_n jle_nil))))) ?_
              exact kM_safe_l25_j97  hd K HL HE0
          · replace K := (if_neg hc14).symm.trans K
            refine jx_le (pl' := [some (.ref 110), some (.int v1), some (.int v2), some (.int v3), none]) (jle_v (jle_v (jle_v (jle_v (jle_n jle_nil))))) ?_
            exact kM_safe_l25_j97  hd K HL HE0
theorem kM_safe_l25_w {X : jX} {dd : Nat} {p d : Nat} {q : Nat → Nat} {Q : Option Value → jS → Prop} {v1 : Int32} {h : jH}  (hd : 2 ≤ (dd + 1)) {s : Int32 × Int32} {x : Int32} (K : jlim (fM_safe_l25 v1 h) s = some x) (HE : jEx X (dd + 1) jc_277 103 [some (.ref 110), some (.int v1), some (.int x), none, none] [] (176, jRf p d q, h) Q) :
    jEx X (dd + 1) jc_277 25 [some (.ref 110), some (.int v1), some (.int s.1), some (.int s.2), none] [] (176, jRf p d q, h) Q := by
  refine jlim_ok (G := fun s : Int32 × Int32 => jEx X (dd + 1) jc_277 25 [some (.ref 110), some (.int v1), some (.int s.1), some (.int s.2), none] [] (176, jRf p d q, h) Q) (GX := fun x : Int32 => jEx X (dd + 1) jc_277 103 [some (.ref 110), some (.int v1), some (.int x), none, none] [] (176, jRf p d q, h) Q) (fun s z hz HL HE => ?_) K HE
  exact kM_safe_l25_b  hd hz HL HE
/-- AndGuestModel.safe(I)I -/
noncomputable def fM_safe (v1 : Int32) (h : jH) : Option Int32 :=
  (if (h.1 110 48) = 0 then
  some ((-1) : Int32)
  else
  (if (fM_isIn v1.toInt64 0 2) = 0 then
  some ((-1) : Int32)
  else
  (Option.bind (jlim (fM_safe_l25  v1 h) (0, 1)) (fun (x18 : Int32) =>
  (if v1 = 0 then
  some (x18 : Int32)
  else
  (if v1 = 1 then
  (Option.bind (fM_slights x18 h) (fun (z21 : Int32) =>
  some (z21 : Int32)))
  else
  (Option.bind (fM_joyBy x18 h) (fun (z22 : Int32) =>
  some (z22 : Int32)))))))))
theorem kM_safe {X : jX} {dd : Nat} {p d : Nat} {q : Nat → Nat} {Q : Option Value → jS → Prop} {v1 : Int32} {h : jH}  (hd : 2 ≤ dd) {z : Int32} (K : fM_safe v1 h = some z) (HQ : Q (some (.int z)) (176, jRf p d q, h)) :
    jCa X dd 277 [.ref 110, .int v1] (176, jRf p d q, h) Q := by
  obtain ⟨dd, rfl⟩ : ∃ d9, dd = d9 + 1 := ⟨dd - 1, by omega⟩
  unfold fM_safe at K
  refine jCa_of (es := jc_277) (pl := [some (.ref 110), some (.int v1), none, none, none]) (M := jm_277) rfl rfl rfl rfl ?_
  refine jx_next (pc := 0) (pc' := 1) rfl rfl ?_
  refine jx_getz (pc := 1) rfl jko_110 ?_
  refine jx_ifeq (pc := 4) rfl (fun hc1 => ?_) (fun hc1 => ?_)
  · replace K := (if_pos hc1).symm.trans K
    refine jx_next (pc := 19) (pc' := 20) rfl rfl ?_
    obtain rfl := Option.some.inj K
    exact jx_iret (pc := 20) rfl HQ
  · replace K := (if_neg hc1).symm.trans K
    refine jx_next (pc := 7) (pc' := 8) rfl rfl ?_
    refine jx_next (pc := 8) (pc' := 9) rfl rfl ?_
    refine jx_next (pc := 9) (pc' := 10) rfl rfl ?_
    refine jx_next (pc := 10) (pc' := 13) rfl rfl ?_
    refine jx_calls (pc := 13) rfl (Nat.le_of_ble_eq_true rfl) (Nat.le_of_ble_eq_true rfl) ?_
    refine kM_isIn  (by omega) rfl ?_
    refine jx_ifne (pc := 16) rfl (fun hc3 => ?_) (fun hc3 => ?_)
    · replace K := (if_pos hc3).symm.trans K
      refine jx_next (pc := 19) (pc' := 20) rfl rfl ?_
      obtain rfl := Option.some.inj K
      exact jx_iret (pc := 20) rfl HQ
    · replace K := (if_neg hc3).symm.trans K
      refine jx_next (pc := 21) (pc' := 22) rfl rfl ?_
      refine jx_stin (pc := 22) (p2 := [some (.ref 110), some (.int v1), some (.int 0), none, none]) rfl (jlt rfl) rfl ?_
      refine jx_next (pc := 23) (pc' := 24) rfl rfl ?_
      refine jx_stin (pc := 24) (p2 := [some (.ref 110), some (.int v1), some (.int 0), some (.int 1), none]) rfl (jlt rfl) rfl ?_
      refine jx_le (pl' := [some (.ref 110), some (.int v1), some (.int 0), some (.int 1), none]) (jle_v (jle_v (jle_v (jle_v (jle_n jle_nil))))) ?_
      obtain ⟨x18, hz_x18, K⟩ := Option.bind_eq_some_iff.mp K
      refine kM_safe_l25_w  hd hz_x18 ?_
      refine jx_next (pc := 103) (pc' := 104) rfl rfl ?_
      refine jx_ifne (pc := 104) rfl (fun hc19 => ?_) (fun hc19 => ?_)
      · replace K := (if_pos hc19).symm.trans K
        refine jx_next (pc := 107) (pc' := 108) rfl rfl ?_
        refine jx_next (pc := 108) (pc' := 129) rfl rfl ?_
        obtain rfl := Option.some.inj K
        exact jx_iret (pc := 129) rfl HQ
      · replace K := (if_neg hc19).symm.trans K
        refine jx_next (pc := 111) (pc' := 112) rfl rfl ?_
        refine jx_next (pc := 112) (pc' := 113) rfl rfl ?_
        refine jx_icne (pc := 113) rfl (fun hc20 => ?_) (fun hc20 => ?_)
        · replace K := (if_pos hc20).symm.trans K
          refine jx_next (pc := 116) (pc' := 117) rfl rfl ?_
          refine jx_next (pc := 117) (pc' := 118) rfl rfl ?_
          refine jx_callv (pc := 118) (o := 110) (rest := []) rfl ⟨by decide, by decide⟩ rfl jko_110 (Nat.le_of_ble_eq_true rfl) ?_
          obtain ⟨z21, hz_z21, K⟩ := Option.bind_eq_some_iff.mp K
          refine kM_slights  (by omega) hz_z21 ?_
          refine jx_next (pc := 121) (pc' := 129) rfl rfl ?_
          obtain rfl := Option.some.inj K
          exact jx_iret (pc := 129) rfl HQ
        · replace K := (if_neg hc20).symm.trans K
          refine jx_next (pc := 124) (pc' := 125) rfl rfl ?_
          refine jx_next (pc := 125) (pc' := 126) rfl rfl ?_
          refine jx_callv (pc := 126) (o := 110) (rest := []) rfl ⟨by decide, by decide⟩ rfl jko_110 (Nat.le_of_ble_eq_true rfl) ?_
          obtain ⟨z22, hz_z22, K⟩ := Option.bind_eq_some_iff.mp K
          refine kM_joyBy  (by omega) hz_z22 ?_
          obtain rfl := Option.some.inj K
          exact jx_iret (pc := 129) rfl HQ
/-- AndGuestModel.leave(I)I -/
noncomputable def fM_leave (v1 : Int32) (h : jH) : Option (Int32 × jH) :=
  (Option.bind (fM_isGuest v1 h) (fun (z1 : Int32) =>
  (if z1 = 0 then
  some ((-1), h)
  else
  (Option.bind (fM_isAsked v1 h) (fun (z3 : Int32) =>
  (if z3 = 0 then
  (Option.bind (fM_bestBut 0 h) (fun (z5 : Int32 × jH) =>
  (Option.bind (fM_worthBy z5.1 z5.2) (fun (z6 : Int64 × jH) =>
  (Option.bind (fM_bestBut (1 <<< (v1 &&& 31)) z6.2) (fun (z7 : Int32 × jH) =>
  (Option.bind (fM_worthBy z7.1 z7.2) (fun (z8 : Int64 × jH) =>
  some ((z6.1 - z8.1).toInt32, z8.2)))))))))
  else
  some ((-1), h)))))))
theorem kM_leave {X : jX} {dd : Nat} {p d : Nat} {q : Nat → Nat} {Q : Option Value → jS → Prop} {v1 : Int32} {h : jH}  (hd : 9 ≤ dd) {z : Int32 × jH} (K : fM_leave v1 h = some z) (HQ : Q (some (.int z.1)) (176, jRf p d q, z.2)) :
    jCa X dd 281 [.ref 110, .int v1] (176, jRf p d q, h) Q := by
  obtain ⟨dd, rfl⟩ : ∃ d9, dd = d9 + 1 := ⟨dd - 1, by omega⟩
  unfold fM_leave at K
  refine jCa_of (es := jc_281) (pl := [some (.ref 110), some (.int v1)]) (M := jm_281) rfl rfl rfl rfl ?_
  refine jx_next (pc := 0) (pc' := 1) rfl rfl ?_
  refine jx_next (pc := 1) (pc' := 2) rfl rfl ?_
  refine jx_callv (pc := 2) (o := 110) (rest := []) rfl ⟨by decide, by decide⟩ rfl jko_110 (Nat.le_of_ble_eq_true rfl) ?_
  obtain ⟨z1, hz_z1, K⟩ := Option.bind_eq_some_iff.mp K
  refine kM_isGuest  (by omega) hz_z1 ?_
  refine jx_ifeq (pc := 5) rfl (fun hc2 => ?_) (fun hc2 => ?_)
  · replace K := (if_pos hc2).symm.trans K
    refine jx_next (pc := 16) (pc' := 17) rfl rfl ?_
    obtain rfl := Option.some.inj K
    exact jx_iret (pc := 17) rfl HQ
  · replace K := (if_neg hc2).symm.trans K
    refine jx_next (pc := 8) (pc' := 9) rfl rfl ?_
    refine jx_next (pc := 9) (pc' := 10) rfl rfl ?_
    refine jx_callv (pc := 10) (o := 110) (rest := []) rfl ⟨by decide, by decide⟩ rfl jko_110 (Nat.le_of_ble_eq_true rfl) ?_
    obtain ⟨z3, hz_z3, K⟩ := Option.bind_eq_some_iff.mp K
    refine kM_isAsked  (by omega) hz_z3 ?_
    refine jx_ifeq (pc := 13) rfl (fun hc4 => ?_) (fun hc4 => ?_)
    · replace K := (if_pos hc4).symm.trans K
      refine jx_next (pc := 18) (pc' := 19) rfl rfl ?_
      refine jx_next (pc := 19) (pc' := 20) rfl rfl ?_
      refine jx_next (pc := 20) (pc' := 21) rfl rfl ?_
      refine jx_callv (pc := 21) (o := 110) (rest := [.ref 110]) rfl ⟨by decide, by decide⟩ rfl jko_110 (Nat.le_of_ble_eq_true rfl) ?_
      obtain ⟨z5, hz_z5, K⟩ := Option.bind_eq_some_iff.mp K
      refine kM_bestBut  (by omega) hz_z5 ?_
      refine jx_callv (pc := 24) (o := 110) (rest := []) rfl ⟨by decide, by decide⟩ rfl jko_110 (Nat.le_of_ble_eq_true rfl) ?_
      obtain ⟨z6, hz_z6, K⟩ := Option.bind_eq_some_iff.mp K
      refine kM_worthBy  (by omega) hz_z6 ?_
      refine jx_next (pc := 27) (pc' := 28) rfl rfl ?_
      refine jx_next (pc := 28) (pc' := 29) rfl rfl ?_
      refine jx_next (pc := 29) (pc' := 30) rfl rfl ?_
      refine jx_next (pc := 30) (pc' := 31) rfl rfl ?_
      refine jx_next (pc := 31) (pc' := 32) rfl rfl ?_
      refine jx_callv (pc := 32) (o := 110) (rest := [.ref 110, .long z6.1]) rfl ⟨by decide, by decide⟩ rfl jko_110 (Nat.le_of_ble_eq_true rfl) ?_
      obtain ⟨z7, hz_z7, K⟩ := Option.bind_eq_some_iff.mp K
      refine kM_bestBut  (by omega) hz_z7 ?_
      refine jx_callv (pc := 35) (o := 110) (rest := [.long z6.1]) rfl ⟨by decide, by decide⟩ rfl jko_110 (Nat.le_of_ble_eq_true rfl) ?_
      obtain ⟨z8, hz_z8, K⟩ := Option.bind_eq_some_iff.mp K
      refine kM_worthBy  (by omega) hz_z8 ?_
      refine jx_next (pc := 38) (pc' := 39) rfl rfl ?_
      refine jx_next (pc := 39) (pc' := 40) rfl rfl ?_
      obtain rfl := Option.some.inj K
      exact jx_iret (pc := 40) rfl HQ
    · replace K := (if_neg hc4).symm.trans K
      refine jx_next (pc := 16) (pc' := 17) rfl rfl ?_
      obtain rfl := Option.some.inj K
      exact jx_iret (pc := 17) rfl HQ
/-- AndGuestModel.meanBy(I)I -/
noncomputable def fM_meanBy (v1 : Int32) (h : jH) : Option (Int32 × jH) :=
  (Option.bind (fM_putsAside h) (fun (z1 : jH) =>
  (Option.bind (fM_sends v1 z1) (fun (z2 : jH) =>
  (Option.bind (fM_meanTens z2) (fun (z3 : Int32) =>
  (Option.bind (fM_takesBack z2) (fun (z4 : jH) =>
  some (z3, z4)))))))))
theorem kM_meanBy {X : jX} {dd : Nat} {p d : Nat} {q : Nat → Nat} {Q : Option Value → jS → Prop} {v1 : Int32} {h : jH}  (hd : 3 ≤ dd) {z : Int32 × jH} (K : fM_meanBy v1 h = some z) (HQ : Q (some (.int z.1)) (176, jRf p d q, z.2)) :
    jCa X dd 283 [.ref 110, .int v1] (176, jRf p d q, h) Q := by
  obtain ⟨dd, rfl⟩ : ∃ d9, dd = d9 + 1 := ⟨dd - 1, by omega⟩
  unfold fM_meanBy at K
  refine jCa_of (es := jc_283) (pl := [some (.ref 110), some (.int v1), none]) (M := jm_283) rfl rfl rfl rfl ?_
  refine jx_next (pc := 0) (pc' := 1) rfl rfl ?_
  refine jx_callv (pc := 1) (o := 110) (rest := []) rfl ⟨by decide, by decide⟩ rfl jko_110 (Nat.le_of_ble_eq_true rfl) ?_
  obtain ⟨z1, hz_z1, K⟩ := Option.bind_eq_some_iff.mp K
  refine kM_putsAside  (by omega) hz_z1 ?_
  refine jx_next (pc := 4) (pc' := 5) rfl rfl ?_
  refine jx_next (pc := 5) (pc' := 6) rfl rfl ?_
  refine jx_callv (pc := 6) (o := 110) (rest := []) rfl ⟨by decide, by decide⟩ rfl jko_110 (Nat.le_of_ble_eq_true rfl) ?_
  obtain ⟨z2, hz_z2, K⟩ := Option.bind_eq_some_iff.mp K
  refine kM_sends  (by omega) hz_z2 ?_
  refine jx_next (pc := 9) (pc' := 10) rfl rfl ?_
  refine jx_callv (pc := 10) (o := 110) (rest := []) rfl ⟨by decide, by decide⟩ rfl jko_110 (Nat.le_of_ble_eq_true rfl) ?_
  obtain ⟨z3, hz_z3, K⟩ := Option.bind_eq_some_iff.mp K
  refine kM_meanTens  (by omega) hz_z3 ?_
  refine jx_stin (pc := 13) (p2 := [some (.ref 110), some (.int v1), some (.int z3)]) rfl (jlt rfl) rfl ?_
  refine jx_next (pc := 14) (pc' := 15) rfl rfl ?_
  refine jx_callv (pc := 15) (o := 110) (rest := []) rfl ⟨by decide, by decide⟩ rfl jko_110 (Nat.le_of_ble_eq_true rfl) ?_
  obtain ⟨z4, hz_z4, K⟩ := Option.bind_eq_some_iff.mp K
  refine kM_takesBack  (by omega) hz_z4 ?_
  refine jx_next (pc := 18) (pc' := 19) rfl rfl ?_
  obtain rfl := Option.some.inj K
  exact jx_iret (pc := 19) rfl HQ
noncomputable def fM_enough_l25_j71 (v1 : Int32) (v2 : Int32) (v3 : Int32) (h : jH) : Option ((Int32 × Int32 × jH) ⊕ (Int32 × jH)) :=
  some (.inl (v2, v3 + 1, h))
theorem kM_enough_l25_j71 {X : jX} {dd : Nat} {p d : Nat} {q : Nat → Nat} {Q : Option Value → jS → Prop} {v1 : Int32} {v2 : Int32} {v3 : Int32} {h : jH}  (hd : 4 ≤ (dd + 1)) {z : (Int32 × Int32 × jH) ⊕ (Int32 × jH)} (K : fM_enough_l25_j71 v1 v2 v3 h = some z) (HL : ∀ s : Int32 × Int32 × jH, z = .inl s → jEx X (dd + 1) jc_282 25 [some (.ref 110), some (.int v1), some (.int s.1), some (.int s.2.1)] [] (176, jRf p d q, s.2.2) Q) (HE0 : ∀ x : Int32 × jH, z = .inr x → jEx X (dd + 1) jc_282 77 [none, none, some (.int x.1), none] [] (176, jRf p d q, x.2) Q) :
    jEx X (dd + 1) jc_282 71 [some (.ref 110), some (.int v1), some (.int v2), some (.int v3)] [] (176, jRf p d q, h) Q := by
  unfold fM_enough_l25_j71 at K
  refine jx_inc (pc := 71) (x := v3) (p2 := [some (.ref 110), some (.int v1), some (.int v2), some (.int (v3 + 1))]) rfl rfl (jlt rfl) rfl ?_
  refine jx_next (pc := 74) (pc' := 25) rfl rfl ?_
  obtain rfl := Option.some.inj K
  refine jx_le (pl' := [some (.ref 110), some (.int v1), some (.int v2), some (.int (v3 + 1))]) (jle_v (jle_v (jle_v (jle_v jle_nil)))) ?_
  exact HL (v2, v3 + 1, h) rfl
noncomputable def fM_enough_l25_j49 (v1 : Int32) (v2 : Int32) (v3 : Int32) (h : jH) : Option ((Int32 × Int32 × jH) ⊕ (Int32 × jH)) :=
  (Option.bind (fM_canSend v3 h) (fun (z7 : Int32) =>
  (if z7 = 0 then
  fM_enough_l25_j71  v1 v2 v3 h
  else
  (Option.bind (fM_meanBy v3 h) (fun (z9 : Int32 × jH) =>
  (if z9.1 < (10 * v1) then
  fM_enough_l25_j71  v1 v2 v3 z9.2
  else
  fM_enough_l25_j71  v1 v3 v3 z9.2))))))
theorem kM_enough_l25_j49 {X : jX} {dd : Nat} {p d : Nat} {q : Nat → Nat} {Q : Option Value → jS → Prop} {v1 : Int32} {v2 : Int32} {v3 : Int32} {h : jH}  (hd : 4 ≤ (dd + 1)) {z : (Int32 × Int32 × jH) ⊕ (Int32 × jH)} (K : fM_enough_l25_j49 v1 v2 v3 h = some z) (HL : ∀ s : Int32 × Int32 × jH, z = .inl s → jEx X (dd + 1) jc_282 25 [some (.ref 110), some (.int v1), some (.int s.1), some (.int s.2.1)] [] (176, jRf p d q, s.2.2) Q) (HE0 : ∀ x : Int32 × jH, z = .inr x → jEx X (dd + 1) jc_282 77 [none, none, some (.int x.1), none] [] (176, jRf p d q, x.2) Q) :
    jEx X (dd + 1) jc_282 49 [some (.ref 110), some (.int v1), some (.int v2), some (.int v3)] [] (176, jRf p d q, h) Q := by
  unfold fM_enough_l25_j49 at K
  refine jx_next (pc := 49) (pc' := 50) rfl rfl ?_
  refine jx_next (pc := 50) (pc' := 51) rfl rfl ?_
  refine jx_callv (pc := 51) (o := 110) (rest := []) rfl ⟨by decide, by decide⟩ rfl jko_110 (Nat.le_of_ble_eq_true rfl) ?_
  obtain ⟨z7, hz_z7, K⟩ := Option.bind_eq_some_iff.mp K
  refine kM_canSend  (by omega) hz_z7 ?_
  refine jx_ifeq (pc := 54) rfl (fun hc8 => ?_) (fun hc8 => ?_)
  · replace K := (if_pos hc8).symm.trans K
    refine jx_le (pl' := [some (.ref 110), some (.int v1), some (.int v2), some (.int v3)]) (jle_v (jle_v (jle_v (jle_v jle_nil)))) ?_
    exact kM_enough_l25_j71  hd K HL HE0
  · replace K := (if_neg hc8).symm.trans K
    refine jx_next (pc := 57) (pc' := 58) rfl rfl ?_
    refine jx_next (pc := 58) (pc' := 59) rfl rfl ?_
    refine jx_callv (pc := 59) (o := 110) (rest := []) rfl ⟨by decide, by decide⟩ rfl jko_110 (Nat.le_of_ble_eq_true rfl) ?_
    obtain ⟨z9, hz_z9, K⟩ := Option.bind_eq_some_iff.mp K
    refine kM_meanBy  (by omega) hz_z9 ?_
    refine jx_next (pc := 62) (pc' := 64) rfl rfl ?_
    refine jx_next (pc := 64) (pc' := 65) rfl rfl ?_
    refine jx_next (pc := 65) (pc' := 66) rfl rfl ?_
    refine jx_iclt (pc := 66) rfl (fun hc10 => ?_) (fun hc10 => ?_)
    · replace K := (if_pos hc10).symm.trans K
      refine jx_le (pl' := [some (.ref 110), some (.int v1), some (.int v2), some (.int v3)]) (jle_v (jle_v (jle_v (jle_v jle_nil)))) ?_
      exact kM_enough_l25_j71  hd K HL HE0
    · replace K := (if_neg hc10).symm.trans K
      refine jx_next (pc := 69) (pc' := 70) rfl rfl ?_
      refine jx_stin (pc := 70) (p2 := [some (.ref 110), some (.int v1), some (.int v3), some (.int v3)]) rfl (jlt rfl) rfl ?_
      refine jx_le (pl' := [some (.ref 110), some (.int v1), some (.int v3), some (.int v3)]) (jle_v (jle_v (jle_v (jle_v jle_nil)))) ?_
      exact kM_enough_l25_j71  hd K HL HE0
noncomputable def fM_enough_l25_b (v1 : Int32) (v2 : Int32) (v3 : Int32) (h : jH) : Option ((Int32 × Int32 × jH) ⊕ (Int32 × jH)) :=
  (Option.bind (fM_allGuests h) (fun (z4 : Int32) =>
  (if z4 < v3 then
  some (.inr (v2, h))
  else
  (if v2 = (-1) then
  fM_enough_l25_j49  v1 v2 v3 h
  else
  (Option.bind (fM_bits v3 h) (fun (z11 : Int32) =>
  (Option.bind (fM_bits v2 h) (fun (z12 : Int32) =>
  (if z11 < z12 then
  fM_enough_l25_j49  v1 v2 v3 h
  else
  fM_enough_l25_j71  v1 v2 v3 h)))))))))
noncomputable def fM_enough_l25 (v1 : Int32) : (Int32 × Int32 × jH) → Option ((Int32 × Int32 × jH) ⊕ (Int32 × jH)) :=
  fun (s : Int32 × Int32 × jH) => fM_enough_l25_b v1 s.1 s.2.1 s.2.2
theorem kM_enough_l25_b {X : jX} {dd : Nat} {p d : Nat} {q : Nat → Nat} {Q : Option Value → jS → Prop} {v1 : Int32} {v2 : Int32} {v3 : Int32} {h : jH}  (hd : 4 ≤ (dd + 1)) {z : (Int32 × Int32 × jH) ⊕ (Int32 × jH)} (K : fM_enough_l25_b v1 v2 v3 h = some z) (HL : ∀ s : Int32 × Int32 × jH, z = .inl s → jEx X (dd + 1) jc_282 25 [some (.ref 110), some (.int v1), some (.int s.1), some (.int s.2.1)] [] (176, jRf p d q, s.2.2) Q) (HE0 : ∀ x : Int32 × jH, z = .inr x → jEx X (dd + 1) jc_282 77 [none, none, some (.int x.1), none] [] (176, jRf p d q, x.2) Q) :
    jEx X (dd + 1) jc_282 25 [some (.ref 110), some (.int v1), some (.int v2), some (.int v3)] [] (176, jRf p d q, h) Q := by
  unfold fM_enough_l25_b at K
  refine jx_next (pc := 25) (pc' := 26) rfl rfl ?_
  refine jx_next (pc := 26) (pc' := 27) rfl rfl ?_
  refine jx_callv (pc := 27) (o := 110) (rest := [.int v3]) rfl ⟨by decide, by decide⟩ rfl jko_110 (Nat.le_of_ble_eq_true rfl) ?_
  obtain ⟨z4, hz_z4, K⟩ := Option.bind_eq_some_iff.mp K
  refine kM_allGuests  (by omega) hz_z4 ?_
  refine jx_icgt (pc := 30) rfl (fun hc5 => ?_) (fun hc5 => ?_)
  · replace K := (if_pos hc5).symm.trans K
    obtain rfl := Option.some.inj K
    refine jx_le (pl' := [none, none, some (.int v2), none]) (jle_n (jle_n (jle_v (jle_n jle_nil)))) ?_
    exact HE0 _ rfl
  · replace K := (if_neg hc5).symm.trans K
    refine jx_next (pc := 33) (pc' := 34) rfl rfl ?_
    refine jx_next (pc := 34) (pc' := 35) rfl rfl ?_
    refine jx_iceq (pc := 35) rfl (fun hc6 => ?_) (fun hc6 => ?_)
    · replace K := (if_pos hc6).symm.trans K
      refine jx_le (pl' := [some (.ref 110), some (.int v1), some (.int v2), some (.int v3)]) (jle_v (jle_v (jle_v (jle_v jle_nil)))) ?_
      exact kM_enough_l25_j49  hd K HL HE0
    · replace K := (if_neg hc6).symm.trans K
      refine jx_next (pc := 38) (pc' := 39) rfl rfl ?_
      refine jx_calls (pc := 39) rfl (Nat.le_of_ble_eq_true rfl) (Nat.le_of_ble_eq_true rfl) ?_
      obtain ⟨z11, hz_z11, K⟩ := Option.bind_eq_some_iff.mp K
      refine kM_bits  (by omega) hz_z11 ?_
      refine jx_next (pc := 42) (pc' := 43) rfl rfl ?_
      refine jx_calls (pc := 43) rfl (Nat.le_of_ble_eq_true rfl) (Nat.le_of_ble_eq_true rfl) ?_
      obtain ⟨z12, hz_z12, K⟩ := Option.bind_eq_some_iff.mp K
      refine kM_bits  (by omega) hz_z12 ?_
      refine jx_icge (pc := 46) rfl (fun hc13 => ?_) (fun hc13 => ?_)
      · replace K := (if_pos hc13).symm.trans K
        refine jx_le (pl' := [some (.ref 110), some (.int v1), some (.int v2), some (.int v3)]) (jle_v (jle_v (jle_v (jle_v jle_nil)))) ?_
        exact kM_enough_l25_j49  hd K HL HE0
      · replace K := (if_neg hc13).symm.trans K
        refine jx_le (pl' := [some (.ref 110), some (.int v1), some (.int v2), some (.int v3)]) (jle_v (jle_v (jle_v (jle_v jle_nil)))) ?_
        exact kM_enough_l25_j71  hd K HL HE0
theorem kM_enough_l25_w {X : jX} {dd : Nat} {p d : Nat} {q : Nat → Nat} {Q : Option Value → jS → Prop} {v1 : Int32}  (hd : 4 ≤ (dd + 1)) {s : Int32 × Int32 × jH} {x : Int32 × jH} (K : jlim (fM_enough_l25 v1) s = some x) (HE : jEx X (dd + 1) jc_282 77 [none, none, some (.int x.1), none] [] (176, jRf p d q, x.2) Q) :
    jEx X (dd + 1) jc_282 25 [some (.ref 110), some (.int v1), some (.int s.1), some (.int s.2.1)] [] (176, jRf p d q, s.2.2) Q := by
  refine jlim_ok (G := fun s : Int32 × Int32 × jH => jEx X (dd + 1) jc_282 25 [some (.ref 110), some (.int v1), some (.int s.1), some (.int s.2.1)] [] (176, jRf p d q, s.2.2) Q) (GX := fun x : Int32 × jH => jEx X (dd + 1) jc_282 77 [none, none, some (.int x.1), none] [] (176, jRf p d q, x.2) Q) (fun s z hz HL HE => ?_) K HE
  exact kM_enough_l25_b  hd hz HL HE
/-- AndGuestModel.enough(I)I -/
noncomputable def fM_enough (v1 : Int32) (h : jH) : Option (Int32 × jH) :=
  (if (h.1 110 48) = 0 then
  some ((-1), h)
  else
  (if (fM_isIn v1.toInt64 0 32) = 0 then
  some ((-1), h)
  else
  (Option.bind (jlim (fM_enough_l25  v1) ((-1), 0, h)) (fun (x14 : Int32 × jH) =>
  some (x14.1, x14.2)))))
theorem kM_enough {X : jX} {dd : Nat} {p d : Nat} {q : Nat → Nat} {Q : Option Value → jS → Prop} {v1 : Int32} {h : jH}  (hd : 4 ≤ dd) {z : Int32 × jH} (K : fM_enough v1 h = some z) (HQ : Q (some (.int z.1)) (176, jRf p d q, z.2)) :
    jCa X dd 282 [.ref 110, .int v1] (176, jRf p d q, h) Q := by
  obtain ⟨dd, rfl⟩ : ∃ d9, dd = d9 + 1 := ⟨dd - 1, by omega⟩
  unfold fM_enough at K
  refine jCa_of (es := jc_282) (pl := [some (.ref 110), some (.int v1), none, none]) (M := jm_282) rfl rfl rfl rfl ?_
  refine jx_next (pc := 0) (pc' := 1) rfl rfl ?_
  refine jx_getz (pc := 1) rfl jko_110 ?_
  refine jx_ifeq (pc := 4) rfl (fun hc1 => ?_) (fun hc1 => ?_)
  · replace K := (if_pos hc1).symm.trans K
    refine jx_next (pc := 19) (pc' := 20) rfl rfl ?_
    obtain rfl := Option.some.inj K
    exact jx_iret (pc := 20) rfl HQ
  · replace K := (if_neg hc1).symm.trans K
    refine jx_next (pc := 7) (pc' := 8) rfl rfl ?_
    refine jx_next (pc := 8) (pc' := 9) rfl rfl ?_
    refine jx_next (pc := 9) (pc' := 10) rfl rfl ?_
    refine jx_next (pc := 10) (pc' := 13) rfl rfl ?_
    refine jx_calls (pc := 13) rfl (Nat.le_of_ble_eq_true rfl) (Nat.le_of_ble_eq_true rfl) ?_
    refine kM_isIn  (by omega) rfl ?_
    refine jx_ifne (pc := 16) rfl (fun hc3 => ?_) (fun hc3 => ?_)
    · replace K := (if_pos hc3).symm.trans K
      refine jx_next (pc := 19) (pc' := 20) rfl rfl ?_
      obtain rfl := Option.some.inj K
      exact jx_iret (pc := 20) rfl HQ
    · replace K := (if_neg hc3).symm.trans K
      refine jx_next (pc := 21) (pc' := 22) rfl rfl ?_
      refine jx_stin (pc := 22) (p2 := [some (.ref 110), some (.int v1), some (.int (-1)), none]) rfl (jlt rfl) rfl ?_
      refine jx_next (pc := 23) (pc' := 24) rfl rfl ?_
      refine jx_stin (pc := 24) (p2 := [some (.ref 110), some (.int v1), some (.int (-1)), some (.int 0)]) rfl (jlt rfl) rfl ?_
      refine jx_le (pl' := [some (.ref 110), some (.int v1), some (.int (-1)), some (.int 0)]) (jle_v (jle_v (jle_v (jle_v jle_nil)))) ?_
      obtain ⟨x14, hz_x14, K⟩ := Option.bind_eq_some_iff.mp K
      refine kM_enough_l25_w  hd hz_x14 ?_
      refine jx_next (pc := 77) (pc' := 78) rfl rfl ?_
      obtain rfl := Option.some.inj K
      exact jx_iret (pc := 78) rfl HQ
/-- AndGuestModel.costOf(I)J -/
noncomputable def fM_costOf (v1 : Int32) (h : jH) : Option Int64 :=
  (if jin 6 8 then
  (if jin 7 8 then
  (Option.bind (fM_beyond v1 h) (fun (z3 : Int64) =>
  some ((((h.2 110 53) * v1.toInt64) * ((h.1 140 (6 : Int32).toNatClampNeg).toInt64)) + (((h.1 140 (7 : Int32).toNatClampNeg).toInt64) * z3) : Int64)))
  else none)
  else none)
theorem kM_costOf {X : jX} {dd : Nat} {p d : Nat} {q : Nat → Nat} {Q : Option Value → jS → Prop} {v1 : Int32} {h : jH}  (hd : 1 ≤ dd) {z : Int64} (K : fM_costOf v1 h = some z) (HQ : Q (some (.long z)) (176, jRf p d q, h)) :
    jCa X dd 285 [.ref 110, .int v1] (176, jRf p d q, h) Q := by
  obtain ⟨dd, rfl⟩ : ∃ d9, dd = d9 + 1 := ⟨dd - 1, by omega⟩
  unfold fM_costOf at K
  refine jCa_of (es := jc_285) (pl := [some (.ref 110), some (.int v1)]) (M := jm_285) rfl rfl rfl rfl ?_
  refine jx_next (pc := 0) (pc' := 1) rfl rfl ?_
  refine jx_getl (pc := 1) rfl jko_110 ?_
  refine jx_next (pc := 4) (pc' := 5) rfl rfl ?_
  refine jx_next (pc := 5) (pc' := 6) rfl rfl ?_
  refine jx_next (pc := 6) (pc' := 7) rfl rfl ?_
  refine jx_next (pc := 7) (pc' := 8) rfl rfl ?_
  refine jx_getr2 (pc := 8) rfl jko_110 jr_12_38 ?_
  refine jx_next (pc := 11) (pc' := 13) rfl rfl ?_
  obtain ⟨hg1, K⟩ := jguard K
  refine jx_iald2 (pc := 13) rfl jko_140 jno_140 hg1 ?_
  refine jx_next (pc := 14) (pc' := 15) rfl rfl ?_
  refine jx_next (pc := 15) (pc' := 16) rfl rfl ?_
  refine jx_next (pc := 16) (pc' := 17) rfl rfl ?_
  refine jx_getr2 (pc := 17) rfl jko_110 jr_12_38 ?_
  refine jx_next (pc := 20) (pc' := 22) rfl rfl ?_
  obtain ⟨hg2, K⟩ := jguard K
  refine jx_iald2 (pc := 22) rfl jko_140 jno_140 hg2 ?_
  refine jx_next (pc := 23) (pc' := 24) rfl rfl ?_
  refine jx_next (pc := 24) (pc' := 25) rfl rfl ?_
  refine jx_next (pc := 25) (pc' := 26) rfl rfl ?_
  refine jx_callv (pc := 26) (o := 110) (rest := [.long ((h.1 140 (7 : Int32).toNatClampNeg).toInt64), .long (((h.2 110 53) * v1.toInt64) * ((h.1 140 (6 : Int32).toNatClampNeg).toInt64))]) rfl ⟨by decide, by decide⟩ rfl jko_110 (Nat.le_of_ble_eq_true rfl) ?_
  obtain ⟨z3, hz_z3, K⟩ := Option.bind_eq_some_iff.mp K
  refine kM_beyond  (by omega) hz_z3 ?_
  refine jx_next (pc := 29) (pc' := 30) rfl rfl ?_
  refine jx_next (pc := 30) (pc' := 31) rfl rfl ?_
  obtain rfl := Option.some.inj K
  exact jx_ret (pc := 31) rfl rfl HQ
/-- AndGuestModel.order(I)I -/
noncomputable def fM_order (v1 : Int32) (h : jH) : Option (Int32 × jH) :=
  (if (h.1 110 48) = 0 then
  some ((-1), h)
  else
  (if (fM_isIn v1.toInt64 0 32) = 0 then
  some ((-1), h)
  else
  (Option.bind (fM_laysHeads h) (fun (z4 : jH) =>
  (Option.bind (fM_costOf v1 z4) (fun (z5 : Int64) =>
  (if ¬ (z4.2 110 53) = 0 then
  some (((100 * z5) / (z4.2 110 53)).toInt32, z4)
  else none)))))))
theorem kM_order {X : jX} {dd : Nat} {p d : Nat} {q : Nat → Nat} {Q : Option Value → jS → Prop} {v1 : Int32} {h : jH}  (hd : 3 ≤ dd) {z : Int32 × jH} (K : fM_order v1 h = some z) (HQ : Q (some (.int z.1)) (176, jRf p d q, z.2)) :
    jCa X dd 284 [.ref 110, .int v1] (176, jRf p d q, h) Q := by
  obtain ⟨dd, rfl⟩ : ∃ d9, dd = d9 + 1 := ⟨dd - 1, by omega⟩
  unfold fM_order at K
  refine jCa_of (es := jc_284) (pl := [some (.ref 110), some (.int v1)]) (M := jm_284) rfl rfl rfl rfl ?_
  refine jx_next (pc := 0) (pc' := 1) rfl rfl ?_
  refine jx_getz (pc := 1) rfl jko_110 ?_
  refine jx_ifeq (pc := 4) rfl (fun hc1 => ?_) (fun hc1 => ?_)
  · replace K := (if_pos hc1).symm.trans K
    refine jx_next (pc := 19) (pc' := 20) rfl rfl ?_
    obtain rfl := Option.some.inj K
    exact jx_iret (pc := 20) rfl HQ
  · replace K := (if_neg hc1).symm.trans K
    refine jx_next (pc := 7) (pc' := 8) rfl rfl ?_
    refine jx_next (pc := 8) (pc' := 9) rfl rfl ?_
    refine jx_next (pc := 9) (pc' := 10) rfl rfl ?_
    refine jx_next (pc := 10) (pc' := 13) rfl rfl ?_
    refine jx_calls (pc := 13) rfl (Nat.le_of_ble_eq_true rfl) (Nat.le_of_ble_eq_true rfl) ?_
    refine kM_isIn  (by omega) rfl ?_
    refine jx_ifne (pc := 16) rfl (fun hc3 => ?_) (fun hc3 => ?_)
    · replace K := (if_pos hc3).symm.trans K
      refine jx_next (pc := 19) (pc' := 20) rfl rfl ?_
      obtain rfl := Option.some.inj K
      exact jx_iret (pc := 20) rfl HQ
    · replace K := (if_neg hc3).symm.trans K
      refine jx_next (pc := 21) (pc' := 22) rfl rfl ?_
      refine jx_callv (pc := 22) (o := 110) (rest := []) rfl ⟨by decide, by decide⟩ rfl jko_110 (Nat.le_of_ble_eq_true rfl) ?_
      obtain ⟨z4, hz_z4, K⟩ := Option.bind_eq_some_iff.mp K
      refine kM_laysHeads  (by omega) hz_z4 ?_
      refine jx_next (pc := 25) (pc' := 28) rfl rfl ?_
      refine jx_next (pc := 28) (pc' := 29) rfl rfl ?_
      refine jx_next (pc := 29) (pc' := 30) rfl rfl ?_
      refine jx_callv (pc := 30) (o := 110) (rest := [.long 100]) rfl ⟨by decide, by decide⟩ rfl jko_110 (Nat.le_of_ble_eq_true rfl) ?_
      obtain ⟨z5, hz_z5, K⟩ := Option.bind_eq_some_iff.mp K
      refine kM_costOf  (by omega) hz_z5 ?_
      refine jx_next (pc := 33) (pc' := 34) rfl rfl ?_
      refine jx_next (pc := 34) (pc' := 35) rfl rfl ?_
      refine jx_getl (pc := 35) rfl jko_110 ?_
      obtain ⟨hg, K⟩ := jguard K
      refine jx_ldiv (pc := 38) rfl hg ?_
      refine jx_next (pc := 39) (pc' := 40) rfl rfl ?_
      obtain rfl := Option.some.inj K
      exact jx_iret (pc := 40) rfl HQ
noncomputable def fM_bestOrder_l4_j26 (v1 : Int32) (v2 : Int32) (h : jH) : Option ((Int32 × Int32) ⊕ (Int32)) :=
  some (.inl (v1, v2 + 1))
theorem kM_bestOrder_l4_j26 {X : jX} {dd : Nat} {p d : Nat} {q : Nat → Nat} {Q : Option Value → jS → Prop} {v1 : Int32} {v2 : Int32} {h : jH}  (hd : 2 ≤ (dd + 1)) {z : (Int32 × Int32) ⊕ (Int32)} (K : fM_bestOrder_l4_j26 v1 v2 h = some z) (HL : ∀ s : Int32 × Int32, z = .inl s → jEx X (dd + 1) jc_287 4 [some (.ref 110), some (.int s.1), some (.int s.2)] [] (176, jRf p d q, h) Q) (HE0 : ∀ x : Int32, z = .inr x → jEx X (dd + 1) jc_287 32 [none, some (.int x), none] [] (176, jRf p d q, h) Q) :
    jEx X (dd + 1) jc_287 26 [some (.ref 110), some (.int v1), some (.int v2)] [] (176, jRf p d q, h) Q := by
  unfold fM_bestOrder_l4_j26 at K
  refine jx_inc (pc := 26) (x := v2) (p2 := [some (.ref 110), some (.int v1), some (.int (v2 + 1))]) rfl rfl (jlt rfl) rfl ?_
  refine jx_next (pc := 29) (pc' := 4) rfl rfl ?_
  obtain rfl := Option.some.inj K
  refine jx_le (pl' := [some (.ref 110), some (.int v1), some (.int (v2 + 1))]) (jle_v (jle_v (jle_v jle_nil))) ?_
  exact HL (v1, v2 + 1) rfl
noncomputable def fM_bestOrder_l4_b (v1 : Int32) (v2 : Int32) (h : jH) : Option ((Int32 × Int32) ⊕ (Int32)) :=
  (if 32 < v2 then
  some (.inr v1)
  else
  (Option.bind (fM_costOf v2 h) (fun (z2 : Int64) =>
  (Option.bind (fM_costOf v1 h) (fun (z3 : Int64) =>
  (if z2 < z3 then
  fM_bestOrder_l4_j26  v2 v2 h
  else
  fM_bestOrder_l4_j26  v1 v2 h))))))
noncomputable def fM_bestOrder_l4  (h : jH) : (Int32 × Int32) → Option ((Int32 × Int32) ⊕ (Int32)) :=
  fun (s : Int32 × Int32) => fM_bestOrder_l4_b s.1 s.2 h
theorem kM_bestOrder_l4_b {X : jX} {dd : Nat} {p d : Nat} {q : Nat → Nat} {Q : Option Value → jS → Prop} {v1 : Int32} {v2 : Int32} {h : jH}  (hd : 2 ≤ (dd + 1)) {z : (Int32 × Int32) ⊕ (Int32)} (K : fM_bestOrder_l4_b v1 v2 h = some z) (HL : ∀ s : Int32 × Int32, z = .inl s → jEx X (dd + 1) jc_287 4 [some (.ref 110), some (.int s.1), some (.int s.2)] [] (176, jRf p d q, h) Q) (HE0 : ∀ x : Int32, z = .inr x → jEx X (dd + 1) jc_287 32 [none, some (.int x), none] [] (176, jRf p d q, h) Q) :
    jEx X (dd + 1) jc_287 4 [some (.ref 110), some (.int v1), some (.int v2)] [] (176, jRf p d q, h) Q := by
  unfold fM_bestOrder_l4_b at K
  refine jx_next (pc := 4) (pc' := 5) rfl rfl ?_
  refine jx_next (pc := 5) (pc' := 7) rfl rfl ?_
  refine jx_icgt (pc := 7) rfl (fun hc1 => ?_) (fun hc1 => ?_)
  · replace K := (if_pos hc1).symm.trans K
    obtain rfl := Option.some.inj K
    refine jx_le (pl' := [none, some (.int v1), none]) (jle_n (jle_v (jle_n jle_nil))) ?_
    exact HE0 _ rfl
  · replace K := (if_neg hc1).symm.trans K
    refine jx_next (pc := 10) (pc' := 11) rfl rfl ?_
    refine jx_next (pc := 11) (pc' := 12) rfl rfl ?_
    refine jx_callv (pc := 12) (o := 110) (rest := []) rfl ⟨by decide, by decide⟩ rfl jko_110 (Nat.le_of_ble_eq_true rfl) ?_
    obtain ⟨z2, hz_z2, K⟩ := Option.bind_eq_some_iff.mp K
    refine kM_costOf  (by omega) hz_z2 ?_
    refine jx_next (pc := 15) (pc' := 16) rfl rfl ?_
    refine jx_next (pc := 16) (pc' := 17) rfl rfl ?_
    refine jx_callv (pc := 17) (o := 110) (rest := [.long z2]) rfl ⟨by decide, by decide⟩ rfl jko_110 (Nat.le_of_ble_eq_true rfl) ?_
    obtain ⟨z3, hz_z3, K⟩ := Option.bind_eq_some_iff.mp K
    refine kM_costOf  (by omega) hz_z3 ?_
    refine jx_lcge (pc := 20) rfl rfl (fun hc4 => ?_) (fun hc4 => ?_)
    · replace K := (if_pos hc4).symm.trans K
      refine jx_next (pc := 24) (pc' := 25) rfl rfl ?_
      refine jx_stin (pc := 25) (p2 := [some (.ref 110), some (.int v2), some (.int v2)]) rfl (jlt rfl) rfl ?_
      refine jx_le (pl' := [some (.ref 110), some (.int v2), some (.int v2)]) (jle_v (jle_v (jle_v jle_nil))) ?_
      exact kM_bestOrder_l4_j26  hd K HL HE0
    · replace K := (if_neg hc4).symm.trans K
      refine jx_le (pl' := [some (.ref 110), some (.int v1), some (.int v2)]) (jle_v (jle_v (jle_v jle_nil))) ?_
      exact kM_bestOrder_l4_j26  hd K HL HE0
theorem kM_bestOrder_l4_w {X : jX} {dd : Nat} {p d : Nat} {q : Nat → Nat} {Q : Option Value → jS → Prop}  {h : jH}  (hd : 2 ≤ (dd + 1)) {s : Int32 × Int32} {x : Int32} (K : jlim (fM_bestOrder_l4  h) s = some x) (HE : jEx X (dd + 1) jc_287 32 [none, some (.int x), none] [] (176, jRf p d q, h) Q) :
    jEx X (dd + 1) jc_287 4 [some (.ref 110), some (.int s.1), some (.int s.2)] [] (176, jRf p d q, h) Q := by
  refine jlim_ok (G := fun s : Int32 × Int32 => jEx X (dd + 1) jc_287 4 [some (.ref 110), some (.int s.1), some (.int s.2)] [] (176, jRf p d q, h) Q) (GX := fun x : Int32 => jEx X (dd + 1) jc_287 32 [none, some (.int x), none] [] (176, jRf p d q, h) Q) (fun s z hz HL HE => ?_) K HE
  exact kM_bestOrder_l4_b  hd hz HL HE
/-- AndGuestModel.bestOrder()I -/
noncomputable def fM_bestOrder  (h : jH) : Option Int32 :=
  (Option.bind (jlim (fM_bestOrder_l4  h) (0, 1)) (fun (x5 : Int32) =>
  some (x5 : Int32)))
theorem kM_bestOrder {X : jX} {dd : Nat} {p d : Nat} {q : Nat → Nat} {Q : Option Value → jS → Prop}  {h : jH}  (hd : 2 ≤ dd) {z : Int32} (K : fM_bestOrder  h = some z) (HQ : Q (some (.int z)) (176, jRf p d q, h)) :
    jCa X dd 287 [.ref 110] (176, jRf p d q, h) Q := by
  obtain ⟨dd, rfl⟩ : ∃ d9, dd = d9 + 1 := ⟨dd - 1, by omega⟩
  unfold fM_bestOrder at K
  refine jCa_of (es := jc_287) (pl := [some (.ref 110), none, none]) (M := jm_287) rfl rfl rfl rfl ?_
  refine jx_next (pc := 0) (pc' := 1) rfl rfl ?_
  refine jx_stin (pc := 1) (p2 := [some (.ref 110), some (.int 0), none]) rfl (jlt rfl) rfl ?_
  refine jx_next (pc := 2) (pc' := 3) rfl rfl ?_
  refine jx_stin (pc := 3) (p2 := [some (.ref 110), some (.int 0), some (.int 1)]) rfl (jlt rfl) rfl ?_
  refine jx_le (pl' := [some (.ref 110), some (.int 0), some (.int 1)]) (jle_v (jle_v (jle_v jle_nil))) ?_
  obtain ⟨x5, hz_x5, K⟩ := Option.bind_eq_some_iff.mp K
  refine kM_bestOrder_l4_w  hd hz_x5 ?_
  refine jx_next (pc := 32) (pc' := 33) rfl rfl ?_
  obtain rfl := Option.some.inj K
  exact jx_iret (pc := 33) rfl HQ
/-- AndGuestModel.plates(I)I -/
noncomputable def fM_plates (v1 : Int32) (h : jH) : Option (Int32 × jH) :=
  (if (h.1 110 48) = 0 then
  some ((-1), h)
  else
  (if (fM_isIn v1.toInt64 0 1) = 0 then
  some ((-1), h)
  else
  (Option.bind (fM_laysHeads h) (fun (z4 : jH) =>
  (Option.bind (fM_bestOrder z4) (fun (z5 : Int32) =>
  (if v1 = 0 then
  some (z5, z4)
  else
  (Option.bind (fM_costOf z5 z4) (fun (z7 : Int64) =>
  (if ¬ (z4.2 110 53) = 0 then
  some (((100 * z7) / (z4.2 110 53)).toInt32, z4)
  else none))))))))))
theorem kM_plates {X : jX} {dd : Nat} {p d : Nat} {q : Nat → Nat} {Q : Option Value → jS → Prop} {v1 : Int32} {h : jH}  (hd : 3 ≤ dd) {z : Int32 × jH} (K : fM_plates v1 h = some z) (HQ : Q (some (.int z.1)) (176, jRf p d q, z.2)) :
    jCa X dd 286 [.ref 110, .int v1] (176, jRf p d q, h) Q := by
  obtain ⟨dd, rfl⟩ : ∃ d9, dd = d9 + 1 := ⟨dd - 1, by omega⟩
  unfold fM_plates at K
  refine jCa_of (es := jc_286) (pl := [some (.ref 110), some (.int v1), none]) (M := jm_286) rfl rfl rfl rfl ?_
  refine jx_next (pc := 0) (pc' := 1) rfl rfl ?_
  refine jx_getz (pc := 1) rfl jko_110 ?_
  refine jx_ifeq (pc := 4) rfl (fun hc1 => ?_) (fun hc1 => ?_)
  · replace K := (if_pos hc1).symm.trans K
    refine jx_next (pc := 17) (pc' := 18) rfl rfl ?_
    obtain rfl := Option.some.inj K
    exact jx_iret (pc := 18) rfl HQ
  · replace K := (if_neg hc1).symm.trans K
    refine jx_next (pc := 7) (pc' := 8) rfl rfl ?_
    refine jx_next (pc := 8) (pc' := 9) rfl rfl ?_
    refine jx_next (pc := 9) (pc' := 10) rfl rfl ?_
    refine jx_next (pc := 10) (pc' := 11) rfl rfl ?_
    refine jx_calls (pc := 11) rfl (Nat.le_of_ble_eq_true rfl) (Nat.le_of_ble_eq_true rfl) ?_
    refine kM_isIn  (by omega) rfl ?_
    refine jx_ifne (pc := 14) rfl (fun hc3 => ?_) (fun hc3 => ?_)
    · replace K := (if_pos hc3).symm.trans K
      refine jx_next (pc := 17) (pc' := 18) rfl rfl ?_
      obtain rfl := Option.some.inj K
      exact jx_iret (pc := 18) rfl HQ
    · replace K := (if_neg hc3).symm.trans K
      refine jx_next (pc := 19) (pc' := 20) rfl rfl ?_
      refine jx_callv (pc := 20) (o := 110) (rest := []) rfl ⟨by decide, by decide⟩ rfl jko_110 (Nat.le_of_ble_eq_true rfl) ?_
      obtain ⟨z4, hz_z4, K⟩ := Option.bind_eq_some_iff.mp K
      refine kM_laysHeads  (by omega) hz_z4 ?_
      refine jx_next (pc := 23) (pc' := 24) rfl rfl ?_
      refine jx_callv (pc := 24) (o := 110) (rest := []) rfl ⟨by decide, by decide⟩ rfl jko_110 (Nat.le_of_ble_eq_true rfl) ?_
      obtain ⟨z5, hz_z5, K⟩ := Option.bind_eq_some_iff.mp K
      refine kM_bestOrder  (by omega) hz_z5 ?_
      refine jx_stin (pc := 27) (p2 := [some (.ref 110), some (.int v1), some (.int z5)]) rfl (jlt rfl) rfl ?_
      refine jx_next (pc := 28) (pc' := 29) rfl rfl ?_
      refine jx_ifne (pc := 29) rfl (fun hc6 => ?_) (fun hc6 => ?_)
      · replace K := (if_pos hc6).symm.trans K
        refine jx_next (pc := 32) (pc' := 33) rfl rfl ?_
        refine jx_next (pc := 33) (pc' := 51) rfl rfl ?_
        obtain rfl := Option.some.inj K
        exact jx_iret (pc := 51) rfl HQ
      · replace K := (if_neg hc6).symm.trans K
        refine jx_next (pc := 36) (pc' := 39) rfl rfl ?_
        refine jx_next (pc := 39) (pc' := 40) rfl rfl ?_
        refine jx_next (pc := 40) (pc' := 41) rfl rfl ?_
        refine jx_callv (pc := 41) (o := 110) (rest := [.long 100]) rfl ⟨by decide, by decide⟩ rfl jko_110 (Nat.le_of_ble_eq_true rfl) ?_
        obtain ⟨z7, hz_z7, K⟩ := Option.bind_eq_some_iff.mp K
        refine kM_costOf  (by omega) hz_z7 ?_
        refine jx_next (pc := 44) (pc' := 45) rfl rfl ?_
        refine jx_next (pc := 45) (pc' := 46) rfl rfl ?_
        refine jx_getl (pc := 46) rfl jko_110 ?_
        obtain ⟨hg, K⟩ := jguard K
        refine jx_ldiv (pc := 49) rfl hg ?_
        refine jx_next (pc := 50) (pc' := 51) rfl rfl ?_
        obtain rfl := Option.some.inj K
        exact jx_iret (pc := 51) rfl HQ
/-- AndGuestModel.costBy(II)J -/
noncomputable def fM_costBy (v1 : Int32) (v2 : Int32) (h : jH) : Option (Int64 × jH) :=
  (Option.bind (fM_howOf v1 h) (fun (z1 : Int32) =>
  (if jin (2 + (2 * v1)) 18 then
  (Option.bind (fM_laysHeads (jhI h 148 (2 + (2 * v1)).toNatClampNeg v2)) (fun (z3 : jH) =>
  (if jin (2 + (2 * v1)) 18 then
  (Option.bind (fM_bestOrder (jhI z3 148 (2 + (2 * v1)).toNatClampNeg z1)) (fun (z5 : Int32) =>
  (Option.bind (fM_costOf z5 (jhI z3 148 (2 + (2 * v1)).toNatClampNeg z1)) (fun (z6 : Int64) =>
  some (z6, jhI z3 148 (2 + (2 * v1)).toNatClampNeg z1)))))
  else none)))
  else none)))
theorem kM_costBy {X : jX} {dd : Nat} {p d : Nat} {q : Nat → Nat} {Q : Option Value → jS → Prop} {v1 : Int32} {v2 : Int32} {h : jH}  (hd : 3 ≤ dd) {z : Int64 × jH} (K : fM_costBy v1 v2 h = some z) (HQ : Q (some (.long z.1)) (176, jRf p d q, z.2)) :
    jCa X dd 289 [.ref 110, .int v1, .int v2] (176, jRf p d q, h) Q := by
  obtain ⟨dd, rfl⟩ : ∃ d9, dd = d9 + 1 := ⟨dd - 1, by omega⟩
  unfold fM_costBy at K
  refine jCa_of (es := jc_289) (pl := [some (.ref 110), some (.int v1), some (.int v2), none]) (M := jm_289) rfl rfl rfl rfl ?_
  refine jx_next (pc := 0) (pc' := 1) rfl rfl ?_
  refine jx_next (pc := 1) (pc' := 2) rfl rfl ?_
  refine jx_callv (pc := 2) (o := 110) (rest := []) rfl ⟨by decide, by decide⟩ rfl jko_110 (Nat.le_of_ble_eq_true rfl) ?_
  obtain ⟨z1, hz_z1, K⟩ := Option.bind_eq_some_iff.mp K
  refine kM_howOf  (by omega) hz_z1 ?_
  refine jx_stin (pc := 5) (p2 := [some (.ref 110), some (.int v1), some (.int v2), some (.int z1)]) rfl (jlt rfl) rfl ?_
  refine jx_next (pc := 6) (pc' := 7) rfl rfl ?_
  refine jx_getr2 (pc := 7) rfl jko_110 jr_12_50 ?_
  refine jx_next (pc := 10) (pc' := 11) rfl rfl ?_
  refine jx_next (pc := 11) (pc' := 12) rfl rfl ?_
  refine jx_next (pc := 12) (pc' := 13) rfl rfl ?_
  refine jx_next (pc := 13) (pc' := 14) rfl rfl ?_
  refine jx_next (pc := 14) (pc' := 15) rfl rfl ?_
  refine jx_next (pc := 15) (pc' := 16) rfl rfl ?_
  obtain ⟨hg2, K⟩ := jguard K
  refine jx_iast2 (pc := 16) rfl jko_148 jno_148 hg2 ?_
  refine jx_next (pc := 17) (pc' := 18) rfl rfl ?_
  refine jx_callv (pc := 18) (o := 110) (rest := []) rfl ⟨by decide, by decide⟩ rfl jko_110 (Nat.le_of_ble_eq_true rfl) ?_
  obtain ⟨z3, hz_z3, K⟩ := Option.bind_eq_some_iff.mp K
  refine kM_laysHeads  (by omega) hz_z3 ?_
  refine jx_next (pc := 21) (pc' := 22) rfl rfl ?_
  refine jx_getr2 (pc := 22) rfl jko_110 jr_12_50 ?_
  refine jx_next (pc := 25) (pc' := 26) rfl rfl ?_
  refine jx_next (pc := 26) (pc' := 27) rfl rfl ?_
  refine jx_next (pc := 27) (pc' := 28) rfl rfl ?_
  refine jx_next (pc := 28) (pc' := 29) rfl rfl ?_
  refine jx_next (pc := 29) (pc' := 30) rfl rfl ?_
  refine jx_next (pc := 30) (pc' := 31) rfl rfl ?_
  obtain ⟨hg4, K⟩ := jguard K
  refine jx_iast2 (pc := 31) rfl jko_148 jno_148 hg4 ?_
  refine jx_next (pc := 32) (pc' := 33) rfl rfl ?_
  refine jx_next (pc := 33) (pc' := 34) rfl rfl ?_
  refine jx_callv (pc := 34) (o := 110) (rest := [.ref 110]) rfl ⟨by decide, by decide⟩ rfl jko_110 (Nat.le_of_ble_eq_true rfl) ?_
  obtain ⟨z5, hz_z5, K⟩ := Option.bind_eq_some_iff.mp K
  refine kM_bestOrder  (by omega) hz_z5 ?_
  refine jx_callv (pc := 37) (o := 110) (rest := []) rfl ⟨by decide, by decide⟩ rfl jko_110 (Nat.le_of_ble_eq_true rfl) ?_
  obtain ⟨z6, hz_z6, K⟩ := Option.bind_eq_some_iff.mp K
  refine kM_costOf  (by omega) hz_z6 ?_
  obtain rfl := Option.some.inj K
  exact jx_ret (pc := 40) rfl rfl HQ
noncomputable def fM_ring_l26_j115 (v1 : Int32) (v2 : Int32) (v3 : Int64) (v5 : Int32) (h : jH) : Option ((Int32 × Int64 × Int32 × jH) ⊕ (Int32 × Int64 × jH)) :=
  some (.inl (v2, v3, v5 + 1, h))
theorem kM_ring_l26_j115 {X : jX} {dd : Nat} {p d : Nat} {q : Nat → Nat} {Q : Option Value → jS → Prop} {v1 : Int32} {v2 : Int32} {v3 : Int64} {v5 : Int32} {h : jH}  (hd : 4 ≤ (dd + 1)) {z : (Int32 × Int64 × Int32 × jH) ⊕ (Int32 × Int64 × jH)} (K : fM_ring_l26_j115 v1 v2 v3 v5 h = some z) (HL : ∀ s : Int32 × Int64 × Int32 × jH, z = .inl s → jEx X (dd + 1) jc_288 26 [some (.ref 110), some (.int v1), some (.int s.1), some (.long s.2.1), none, some (.int s.2.2.1), none, none, none] [] (176, jRf p d q, s.2.2.2) Q) (HE0 : ∀ x : Int32 × Int64 × jH, z = .inr x → jEx X (dd + 1) jc_288 121 [some (.ref 110), some (.int v1), some (.int x.1), some (.long x.2.1), none, none, none, none, none] [] (176, jRf p d q, x.2.2) Q) :
    jEx X (dd + 1) jc_288 115 [some (.ref 110), some (.int v1), some (.int v2), some (.long v3), none, some (.int v5), none, none, none] [] (176, jRf p d q, h) Q := by
  unfold fM_ring_l26_j115 at K
  refine jx_inc (pc := 115) (x := v5) (p2 := [some (.ref 110), some (.int v1), some (.int v2), some (.long v3), none, some (.int (v5 + 1)), none, none, none]) rfl rfl (jlt rfl) rfl ?_
  refine jx_next (pc := 118) (pc' := 26) rfl rfl ?_
  obtain rfl := Option.some.inj K
  refine jx_le (pl' := [some (.ref 110), some (.int v1), some (.int v2), some (.long v3), none, some (.int (v5 + 1)), none, none, none]) (jle_v (jle_v (jle_v (jle_v (jle_n (jle_v (jle_n (jle_n (jle_n jle_nil))))))))) ?_
  exact HL (v2, v3, v5 + 1, h) rfl
noncomputable def fM_ring_l26_j109 (v1 : Int32) (v5 : Int32) (v7 : Int64) (h : jH) : Option ((Int32 × Int64 × Int32 × jH) ⊕ (Int32 × Int64 × jH)) :=
  fM_ring_l26_j115  v1 v5 v7 v5 h
theorem kM_ring_l26_j109 {X : jX} {dd : Nat} {p d : Nat} {q : Nat → Nat} {Q : Option Value → jS → Prop} {v1 : Int32} {v5 : Int32} {v7 : Int64} {h : jH}  (hd : 4 ≤ (dd + 1)) {z : (Int32 × Int64 × Int32 × jH) ⊕ (Int32 × Int64 × jH)} (K : fM_ring_l26_j109 v1 v5 v7 h = some z) (HL : ∀ s : Int32 × Int64 × Int32 × jH, z = .inl s → jEx X (dd + 1) jc_288 26 [some (.ref 110), some (.int v1), some (.int s.1), some (.long s.2.1), none, some (.int s.2.2.1), none, none, none] [] (176, jRf p d q, s.2.2.2) Q) (HE0 : ∀ x : Int32 × Int64 × jH, z = .inr x → jEx X (dd + 1) jc_288 121 [some (.ref 110), some (.int v1), some (.int x.1), some (.long x.2.1), none, none, none, none, none] [] (176, jRf p d q, x.2.2) Q) :
    jEx X (dd + 1) jc_288 109 [some (.ref 110), some (.int v1), none, none, none, some (.int v5), none, some (.long v7), none] [] (176, jRf p d q, h) Q := by
  unfold fM_ring_l26_j109 at K
  refine jx_next (pc := 109) (pc' := 111) rfl rfl ?_
  refine jx_stin (pc := 111) (p2 := [some (.ref 110), some (.int v1), some (.int v5), none, none, some (.int v5), none, some (.long v7), none]) rfl (jlt rfl) rfl ?_
  refine jx_next (pc := 112) (pc' := 114) rfl rfl ?_
  refine jx_stln (pc := 114) (p2 := [some (.ref 110), some (.int v1), some (.int v5), some (.long v7), none, some (.int v5), none, some (.long v7), none]) rfl (jlt rfl) rfl ?_
  refine jx_le (pl' := [some (.ref 110), some (.int v1), some (.int v5), some (.long v7), none, some (.int v5), none, none, none]) (jle_v (jle_v (jle_v (jle_v (jle_n (jle_v (jle_n (jle_n (jle_n jle_nil))))))))) ?_
  exact kM_ring_l26_j115  hd K HL HE0
noncomputable def fM_ring_l26_j58 (v1 : Int32) (v2 : Int32) (v3 : Int64) (v5 : Int32) (h : jH) : Option ((Int32 × Int64 × Int32 × jH) ⊕ (Int32 × Int64 × jH)) :=
  (Option.bind (fM_tensOf v5 h) (fun (z8 : Int32) =>
  (Option.bind (fM_costBy v5 2 h) (fun (z9 : Int64 × jH) =>
  (Option.bind (fM_costBy v5 3 z9.2) (fun (z10 : Int64 × jH) =>
  (if v2 = (-1) then
  fM_ring_l26_j109  v1 v5 ((z9.1 * z8.toInt64) + (z10.1 * ((10 - z8).toInt64))) z10.2
  else
  (if ((z9.1 * z8.toInt64) + (z10.1 * ((10 - z8).toInt64))) < v3 then
  fM_ring_l26_j109  v1 v5 ((z9.1 * z8.toInt64) + (z10.1 * ((10 - z8).toInt64))) z10.2
  else
  fM_ring_l26_j115  v1 v2 v3 v5 z10.2))))))))
theorem kM_ring_l26_j58 {X : jX} {dd : Nat} {p d : Nat} {q : Nat → Nat} {Q : Option Value → jS → Prop} {v1 : Int32} {v2 : Int32} {v3 : Int64} {v5 : Int32} {h : jH}  (hd : 4 ≤ (dd + 1)) {z : (Int32 × Int64 × Int32 × jH) ⊕ (Int32 × Int64 × jH)} (K : fM_ring_l26_j58 v1 v2 v3 v5 h = some z) (HL : ∀ s : Int32 × Int64 × Int32 × jH, z = .inl s → jEx X (dd + 1) jc_288 26 [some (.ref 110), some (.int v1), some (.int s.1), some (.long s.2.1), none, some (.int s.2.2.1), none, none, none] [] (176, jRf p d q, s.2.2.2) Q) (HE0 : ∀ x : Int32 × Int64 × jH, z = .inr x → jEx X (dd + 1) jc_288 121 [some (.ref 110), some (.int v1), some (.int x.1), some (.long x.2.1), none, none, none, none, none] [] (176, jRf p d q, x.2.2) Q) :
    jEx X (dd + 1) jc_288 58 [some (.ref 110), some (.int v1), some (.int v2), some (.long v3), none, some (.int v5), none, none, none] [] (176, jRf p d q, h) Q := by
  unfold fM_ring_l26_j58 at K
  refine jx_next (pc := 58) (pc' := 59) rfl rfl ?_
  refine jx_next (pc := 59) (pc' := 61) rfl rfl ?_
  refine jx_callv (pc := 61) (o := 110) (rest := []) rfl ⟨by decide, by decide⟩ rfl jko_110 (Nat.le_of_ble_eq_true rfl) ?_
  obtain ⟨z8, hz_z8, K⟩ := Option.bind_eq_some_iff.mp K
  refine kM_tensOf  (by omega) hz_z8 ?_
  refine jx_sti (pc := 64) (p2 := [some (.ref 110), some (.int v1), some (.int v2), some (.long v3), none, some (.int v5), some (.int z8), none, none]) rfl (jlt rfl) rfl ?_
  refine jx_next (pc := 66) (pc' := 67) rfl rfl ?_
  refine jx_next (pc := 67) (pc' := 69) rfl rfl ?_
  refine jx_next (pc := 69) (pc' := 70) rfl rfl ?_
  refine jx_callv (pc := 70) (o := 110) (rest := []) rfl ⟨by decide, by decide⟩ rfl jko_110 (Nat.le_of_ble_eq_true rfl) ?_
  obtain ⟨z9, hz_z9, K⟩ := Option.bind_eq_some_iff.mp K
  refine kM_costBy  (by omega) hz_z9 ?_
  refine jx_next (pc := 73) (pc' := 75) rfl rfl ?_
  refine jx_next (pc := 75) (pc' := 76) rfl rfl ?_
  refine jx_next (pc := 76) (pc' := 77) rfl rfl ?_
  refine jx_next (pc := 77) (pc' := 78) rfl rfl ?_
  refine jx_next (pc := 78) (pc' := 80) rfl rfl ?_
  refine jx_next (pc := 80) (pc' := 81) rfl rfl ?_
  refine jx_callv (pc := 81) (o := 110) (rest := [.long (z9.1 * z8.toInt64)]) rfl ⟨by decide, by decide⟩ rfl jko_110 (Nat.le_of_ble_eq_true rfl) ?_
  obtain ⟨z10, hz_z10, K⟩ := Option.bind_eq_some_iff.mp K
  refine kM_costBy  (by omega) hz_z10 ?_
  refine jx_next (pc := 84) (pc' := 86) rfl rfl ?_
  refine jx_next (pc := 86) (pc' := 88) rfl rfl ?_
  refine jx_next (pc := 88) (pc' := 89) rfl rfl ?_
  refine jx_next (pc := 89) (pc' := 90) rfl rfl ?_
  refine jx_next (pc := 90) (pc' := 91) rfl rfl ?_
  refine jx_next (pc := 91) (pc' := 92) rfl rfl ?_
  refine jx_stl (pc := 92) (p2 := [some (.ref 110), some (.int v1), some (.int v2), some (.long v3), none, some (.int v5), some (.int z8), some (.long ((z9.1 * z8.toInt64) + (z10.1 * ((10 - z8).toInt64)))), none]) rfl (jlt rfl) rfl ?_
  refine jx_next (pc := 94) (pc' := 95) rfl rfl ?_
  refine jx_next (pc := 95) (pc' := 96) rfl rfl ?_
  refine jx_iceq (pc := 96) rfl (fun hc11 => ?_) (fun hc11 => ?_)
  · replace K := (if_pos hc11).symm.trans K
    refine jx_le (pl' := [some (.ref 110), some (.int v1), none, none, none, some (.int v5), none, some (.long ((z9.1 * z8.toInt64) + (z10.1 * ((10 - z8).toInt64)))), none]) (jle_v (jle_v (jle_n (jle_n (jle_n (jle_v (jle_n (jle_v (jle_n jle_nil))))))))) ?_
    exact kM_ring_l26_j109  hd K HL HE0
  · replace K := (if_neg hc11).symm.trans K
    refine jx_next (pc := 99) (pc' := 101) rfl rfl ?_
    refine jx_next (pc := 101) (pc' := 102) rfl rfl ?_
    refine jx_lclt (pc := 102) rfl rfl (fun hc12 => ?_) (fun hc12 => ?_)
    · replace K := (if_pos hc12).symm.trans K
      refine jx_le (pl' := [some (.ref 110), some (.int v1), none, none, none, some (.int v5), none, some (.long ((z9.1 * z8.toInt64) + (z10.1 * ((10 - z8).toInt64)))), none]) (jle_v (jle_v (jle_n (jle_n (jle_n (jle_v (jle_n (jle_v (jle_n jle_nil))))))))) ?_
      exact kM_ring_l26_j109  hd K HL HE0
    · replace K := (if_neg hc12).symm.trans K
      refine jx_next (pc := 106) (pc' := 115) rfl rfl ?_
      refine jx_le (pl' := [some (.ref 110), some (.int v1), some (.int v2), some (.long v3), none, some (.int v5), none, none, none]) (jle_v (jle_v (jle_v (jle_v (jle_n (jle_v (jle_n (jle_n (jle_n jle_nil))))))))) ?_
      exact kM_ring_l26_j115  hd K HL HE0
noncomputable def fM_ring_l26_b (v1 : Int32) (v2 : Int32) (v3 : Int64) (v5 : Int32) (h : jH) : Option ((Int32 × Int64 × Int32 × jH) ⊕ (Int32 × Int64 × jH)) :=
  (Option.bind (fM_guestMany h) (fun (z4 : Int32) =>
  (if v5 < z4 then
  (Option.bind (fM_howOf v5 h) (fun (z6 : Int32) =>
  (if z6 = 1 then
  fM_ring_l26_j58  v1 v2 v3 v5 h
  else
  (Option.bind (fM_howOf v5 h) (fun (z13 : Int32) =>
  (if z13 = 4 then
  fM_ring_l26_j58  v1 v2 v3 v5 h
  else
  fM_ring_l26_j115  v1 v2 v3 v5 h))))))
  else
  some (.inr (v2, v3, h)))))
noncomputable def fM_ring_l26 (v1 : Int32) : (Int32 × Int64 × Int32 × jH) → Option ((Int32 × Int64 × Int32 × jH) ⊕ (Int32 × Int64 × jH)) :=
  fun (s : Int32 × Int64 × Int32 × jH) => fM_ring_l26_b v1 s.1 s.2.1 s.2.2.1 s.2.2.2
theorem kM_ring_l26_b {X : jX} {dd : Nat} {p d : Nat} {q : Nat → Nat} {Q : Option Value → jS → Prop} {v1 : Int32} {v2 : Int32} {v3 : Int64} {v5 : Int32} {h : jH}  (hd : 4 ≤ (dd + 1)) {z : (Int32 × Int64 × Int32 × jH) ⊕ (Int32 × Int64 × jH)} (K : fM_ring_l26_b v1 v2 v3 v5 h = some z) (HL : ∀ s : Int32 × Int64 × Int32 × jH, z = .inl s → jEx X (dd + 1) jc_288 26 [some (.ref 110), some (.int v1), some (.int s.1), some (.long s.2.1), none, some (.int s.2.2.1), none, none, none] [] (176, jRf p d q, s.2.2.2) Q) (HE0 : ∀ x : Int32 × Int64 × jH, z = .inr x → jEx X (dd + 1) jc_288 121 [some (.ref 110), some (.int v1), some (.int x.1), some (.long x.2.1), none, none, none, none, none] [] (176, jRf p d q, x.2.2) Q) :
    jEx X (dd + 1) jc_288 26 [some (.ref 110), some (.int v1), some (.int v2), some (.long v3), none, some (.int v5), none, none, none] [] (176, jRf p d q, h) Q := by
  unfold fM_ring_l26_b at K
  refine jx_next (pc := 26) (pc' := 28) rfl rfl ?_
  refine jx_next (pc := 28) (pc' := 29) rfl rfl ?_
  refine jx_callv (pc := 29) (o := 110) (rest := [.int v5]) rfl ⟨by decide, by decide⟩ rfl jko_110 (Nat.le_of_ble_eq_true rfl) ?_
  obtain ⟨z4, hz_z4, K⟩ := Option.bind_eq_some_iff.mp K
  refine kM_guestMany  (by omega) hz_z4 ?_
  refine jx_icge (pc := 32) rfl (fun hc5 => ?_) (fun hc5 => ?_)
  · replace K := (if_pos hc5).symm.trans K
    refine jx_next (pc := 35) (pc' := 36) rfl rfl ?_
    refine jx_next (pc := 36) (pc' := 38) rfl rfl ?_
    refine jx_callv (pc := 38) (o := 110) (rest := []) rfl ⟨by decide, by decide⟩ rfl jko_110 (Nat.le_of_ble_eq_true rfl) ?_
    obtain ⟨z6, hz_z6, K⟩ := Option.bind_eq_some_iff.mp K
    refine kM_howOf  (by omega) hz_z6 ?_
    refine jx_next (pc := 41) (pc' := 42) rfl rfl ?_
    refine jx_iceq (pc := 42) rfl (fun hc7 => ?_) (fun hc7 => ?_)
    · replace K := (if_pos hc7).symm.trans K
      refine jx_le (pl' := [some (.ref 110), some (.int v1), some (.int v2), some (.long v3), none, some (.int v5), none, none, none]) (jle_v (jle_v (jle_v (jle_v (jle_n (jle_v (jle_n (jle_n (jle_n jle_nil))))))))) ?_
      exact kM_ring_l26_j58  hd K HL HE0
    · replace K := (if_neg hc7).symm.trans K
      refine jx_next (pc := 45) (pc' := 46) rfl rfl ?_
      refine jx_next (pc := 46) (pc' := 48) rfl rfl ?_
      refine jx_callv (pc := 48) (o := 110) (rest := []) rfl ⟨by decide, by decide⟩ rfl jko_110 (Nat.le_of_ble_eq_true rfl) ?_
      obtain ⟨z13, hz_z13, K⟩ := Option.bind_eq_some_iff.mp K
      refine kM_howOf  (by omega) hz_z13 ?_
      refine jx_next (pc := 51) (pc' := 52) rfl rfl ?_
      refine jx_iceq (pc := 52) rfl (fun hc14 => ?_) (fun hc14 => ?_)
      · replace K := (if_pos hc14).symm.trans K
        refine jx_le (pl' := [some (.ref 110), some (.int v1), some (.int v2), some (.long v3), none, some (.int v5), none, none, none]) (jle_v (jle_v (jle_v (jle_v (jle_n (jle_v (jle_n (jle_n (jle_n jle_nil))))))))) ?_
        exact kM_ring_l26_j58  hd K HL HE0
      · replace K := (if_neg hc14).symm.trans K
        refine jx_next (pc := 55) (pc' := 115) rfl rfl ?_
        refine jx_le (pl' := [some (.ref 110), some (.int v1), some (.int v2), some (.long v3), none, some (.int v5), none, none, none]) (jle_v (jle_v (jle_v (jle_v (jle_n (jle_v (jle_n (jle_n (jle_n jle_nil))))))))) ?_
        exact kM_ring_l26_j115  hd K HL HE0
  · replace K := (if_neg hc5).symm.trans K
    obtain rfl := Option.some.inj K
    refine jx_le (pl' := [some (.ref 110), some (.int v1), some (.int v2), some (.long v3), none, none, none, none, none]) (jle_v (jle_v (jle_v (jle_v (jle_n (jle_n (jle_n (jle_n (jle_n jle_nil))))))))) ?_
    exact HE0 _ rfl
theorem kM_ring_l26_w {X : jX} {dd : Nat} {p d : Nat} {q : Nat → Nat} {Q : Option Value → jS → Prop} {v1 : Int32}  (hd : 4 ≤ (dd + 1)) {s : Int32 × Int64 × Int32 × jH} {x : Int32 × Int64 × jH} (K : jlim (fM_ring_l26 v1) s = some x) (HE : jEx X (dd + 1) jc_288 121 [some (.ref 110), some (.int v1), some (.int x.1), some (.long x.2.1), none, none, none, none, none] [] (176, jRf p d q, x.2.2) Q) :
    jEx X (dd + 1) jc_288 26 [some (.ref 110), some (.int v1), some (.int s.1), some (.long s.2.1), none, some (.int s.2.2.1), none, none, none] [] (176, jRf p d q, s.2.2.2) Q := by
  refine jlim_ok (G := fun s : Int32 × Int64 × Int32 × jH => jEx X (dd + 1) jc_288 26 [some (.ref 110), some (.int v1), some (.int s.1), some (.long s.2.1), none, some (.int s.2.2.1), none, none, none] [] (176, jRf p d q, s.2.2.2) Q) (GX := fun x : Int32 × Int64 × jH => jEx X (dd + 1) jc_288 121 [some (.ref 110), some (.int v1), some (.int x.1), some (.long x.2.1), none, none, none, none, none] [] (176, jRf p d q, x.2.2) Q) (fun s z hz HL HE => ?_) K HE
  exact kM_ring_l26_b  hd hz HL HE
/-- AndGuestModel.ring(I)I -/
noncomputable def fM_ring (v1 : Int32) (h : jH) : Option (Int32 × jH) :=
  (if (h.1 110 48) = 0 then
  some ((-1), h)
  else
  (if (fM_isIn v1.toInt64 0 1) = 0 then
  some ((-1), h)
  else
  (Option.bind (jlim (fM_ring_l26  v1) ((-1), 0, 0, h)) (fun (x15 : Int32 × Int64 × jH) =>
  (if x15.1 = (-1) then
  some ((-1), x15.2.2)
  else
  (if v1 = 0 then
  some (x15.1, x15.2.2)
  else
  (if ¬ (x15.2.2.2 110 53) = 0 then
  some (((10 * x15.2.1) / (x15.2.2.2 110 53)).toInt32, x15.2.2)
  else none)))))))
theorem kM_ring {X : jX} {dd : Nat} {p d : Nat} {q : Nat → Nat} {Q : Option Value → jS → Prop} {v1 : Int32} {h : jH}  (hd : 4 ≤ dd) {z : Int32 × jH} (K : fM_ring v1 h = some z) (HQ : Q (some (.int z.1)) (176, jRf p d q, z.2)) :
    jCa X dd 288 [.ref 110, .int v1] (176, jRf p d q, h) Q := by
  obtain ⟨dd, rfl⟩ : ∃ d9, dd = d9 + 1 := ⟨dd - 1, by omega⟩
  unfold fM_ring at K
  refine jCa_of (es := jc_288) (pl := [some (.ref 110), some (.int v1), none, none, none, none, none, none, none]) (M := jm_288) rfl rfl rfl rfl ?_
  refine jx_next (pc := 0) (pc' := 1) rfl rfl ?_
  refine jx_getz (pc := 1) rfl jko_110 ?_
  refine jx_ifeq (pc := 4) rfl (fun hc1 => ?_) (fun hc1 => ?_)
  · replace K := (if_pos hc1).symm.trans K
    refine jx_next (pc := 17) (pc' := 18) rfl rfl ?_
    obtain rfl := Option.some.inj K
    exact jx_iret (pc := 18) rfl HQ
  · replace K := (if_neg hc1).symm.trans K
    refine jx_next (pc := 7) (pc' := 8) rfl rfl ?_
    refine jx_next (pc := 8) (pc' := 9) rfl rfl ?_
    refine jx_next (pc := 9) (pc' := 10) rfl rfl ?_
    refine jx_next (pc := 10) (pc' := 11) rfl rfl ?_
    refine jx_calls (pc := 11) rfl (Nat.le_of_ble_eq_true rfl) (Nat.le_of_ble_eq_true rfl) ?_
    refine kM_isIn  (by omega) rfl ?_
    refine jx_ifne (pc := 14) rfl (fun hc3 => ?_) (fun hc3 => ?_)
    · replace K := (if_pos hc3).symm.trans K
      refine jx_next (pc := 17) (pc' := 18) rfl rfl ?_
      obtain rfl := Option.some.inj K
      exact jx_iret (pc := 18) rfl HQ
    · replace K := (if_neg hc3).symm.trans K
      refine jx_next (pc := 19) (pc' := 20) rfl rfl ?_
      refine jx_stin (pc := 20) (p2 := [some (.ref 110), some (.int v1), some (.int (-1)), none, none, none, none, none, none]) rfl (jlt rfl) rfl ?_
      refine jx_next (pc := 21) (pc' := 22) rfl rfl ?_
      refine jx_stln (pc := 22) (p2 := [some (.ref 110), some (.int v1), some (.int (-1)), some (.long 0), none, none, none, none, none]) rfl (jlt rfl) rfl ?_
      refine jx_next (pc := 23) (pc' := 24) rfl rfl ?_
      refine jx_sti (pc := 24) (p2 := [some (.ref 110), some (.int v1), some (.int (-1)), some (.long 0), none, some (.int 0), none, none, none]) rfl (jlt rfl) rfl ?_
      refine jx_le (pl' := [some (.ref 110), some (.int v1), some (.int (-1)), some (.long 0), none, some (.int 0), none, none, none]) (jle_v (jle_v (jle_v (jle_v (jle_n (jle_v (jle_n (jle_n (jle_n jle_nil))))))))) ?_
      obtain ⟨x15, hz_x15, K⟩ := Option.bind_eq_some_iff.mp K
      refine kM_ring_l26_w  hd hz_x15 ?_
      refine jx_next (pc := 121) (pc' := 122) rfl rfl ?_
      refine jx_next (pc := 122) (pc' := 123) rfl rfl ?_
      refine jx_icne (pc := 123) rfl (fun hc16 => ?_) (fun hc16 => ?_)
      · replace K := (if_pos hc16).symm.trans K
        refine jx_next (pc := 126) (pc' := 127) rfl rfl ?_
        refine jx_next (pc := 127) (pc' := 149) rfl rfl ?_
        obtain rfl := Option.some.inj K
        exact jx_iret (pc := 149) rfl HQ
      · replace K := (if_neg hc16).symm.trans K
        refine jx_next (pc := 130) (pc' := 131) rfl rfl ?_
        refine jx_ifne (pc := 131) rfl (fun hc17 => ?_) (fun hc17 => ?_)
        · replace K := (if_pos hc17).symm.trans K
          refine jx_next (pc := 134) (pc' := 135) rfl rfl ?_
          refine jx_next (pc := 135) (pc' := 149) rfl rfl ?_
          obtain rfl := Option.some.inj K
          exact jx_iret (pc := 149) rfl HQ
        · replace K := (if_neg hc17).symm.trans K
          refine jx_next (pc := 138) (pc' := 141) rfl rfl ?_
          refine jx_next (pc := 141) (pc' := 142) rfl rfl ?_
          refine jx_next (pc := 142) (pc' := 143) rfl rfl ?_
          refine jx_next (pc := 143) (pc' := 144) rfl rfl ?_
          refine jx_getl (pc := 144) rfl jko_110 ?_
          obtain ⟨hg, K⟩ := jguard K
          refine jx_ldiv (pc := 147) rfl hg ?_
          refine jx_next (pc := 148) (pc' := 149) rfl rfl ?_
          obtain rfl := Option.some.inj K
          exact jx_iret (pc := 149) rfl HQ
noncomputable def fM_likely_l5_j77 (v1 : Int32) (v2 : Int64) (v4 : Int32) (h : jH) : Option ((Int64 × Int32) ⊕ (Int64)) :=
  some (.inl (v2, v4 + 1))
theorem kM_likely_l5_j77 {X : jX} {dd : Nat} {p d : Nat} {q : Nat → Nat} {Q : Option Value → jS → Prop} {v1 : Int32} {v2 : Int64} {v4 : Int32} {h : jH}  (hd : 1 ≤ (dd + 1)) {z : (Int64 × Int32) ⊕ (Int64)} (K : fM_likely_l5_j77 v1 v2 v4 h = some z) (HL : ∀ s : Int64 × Int32, z = .inl s → jEx X (dd + 1) jc_291 5 [some (.ref 110), some (.int v1), some (.long s.1), none, some (.int s.2), none] [] (176, jRf p d q, h) Q) (HE0 : ∀ x : Int64, z = .inr x → jEx X (dd + 1) jc_291 83 [none, none, some (.long x), none, none, none] [] (176, jRf p d q, h) Q) :
    jEx X (dd + 1) jc_291 77 [some (.ref 110), some (.int v1), some (.long v2), none, some (.int v4), none] [] (176, jRf p d q, h) Q := by
  unfold fM_likely_l5_j77 at K
  refine jx_inc (pc := 77) (x := v4) (p2 := [some (.ref 110), some (.int v1), some (.long v2), none, some (.int (v4 + 1)), none]) rfl rfl (jlt rfl) rfl ?_
  refine jx_next (pc := 80) (pc' := 5) rfl rfl ?_
  obtain rfl := Option.some.inj K
  refine jx_le (pl' := [some (.ref 110), some (.int v1), some (.long v2), none, some (.int (v4 + 1)), none]) (jle_v (jle_v (jle_v (jle_n (jle_v (jle_n jle_nil)))))) ?_
  exact HL (v2, v4 + 1) rfl
noncomputable def fM_likely_l5_j58 (v1 : Int32) (v2 : Int64) (v4 : Int32) (v5 : Int32) (h : jH) : Option ((Int64 × Int32) ⊕ (Int64)) :=
  (Option.bind (fM_howOf v4 h) (fun (z7 : Int32) =>
  (if z7 = 3 then
  fM_likely_l5_j77  v1 (v2 * ((10 - v5).toInt64)) v4 h
  else
  fM_likely_l5_j77  v1 v2 v4 h)))
theorem kM_likely_l5_j58 {X : jX} {dd : Nat} {p d : Nat} {q : Nat → Nat} {Q : Option Value → jS → Prop} {v1 : Int32} {v2 : Int64} {v4 : Int32} {v5 : Int32} {h : jH}  (hd : 1 ≤ (dd + 1)) {z : (Int64 × Int32) ⊕ (Int64)} (K : fM_likely_l5_j58 v1 v2 v4 v5 h = some z) (HL : ∀ s : Int64 × Int32, z = .inl s → jEx X (dd + 1) jc_291 5 [some (.ref 110), some (.int v1), some (.long s.1), none, some (.int s.2), none] [] (176, jRf p d q, h) Q) (HE0 : ∀ x : Int64, z = .inr x → jEx X (dd + 1) jc_291 83 [none, none, some (.long x), none, none, none] [] (176, jRf p d q, h) Q) :
    jEx X (dd + 1) jc_291 58 [some (.ref 110), some (.int v1), some (.long v2), none, some (.int v4), some (.int v5)] [] (176, jRf p d q, h) Q := by
  unfold fM_likely_l5_j58 at K
  refine jx_next (pc := 58) (pc' := 59) rfl rfl ?_
  refine jx_next (pc := 59) (pc' := 61) rfl rfl ?_
  refine jx_callv (pc := 61) (o := 110) (rest := []) rfl ⟨by decide, by decide⟩ rfl jko_110 (Nat.le_of_ble_eq_true rfl) ?_
  obtain ⟨z7, hz_z7, K⟩ := Option.bind_eq_some_iff.mp K
  refine kM_howOf  (by omega) hz_z7 ?_
  refine jx_next (pc := 64) (pc' := 65) rfl rfl ?_
  refine jx_icne (pc := 65) rfl (fun hc8 => ?_) (fun hc8 => ?_)
  · replace K := (if_pos hc8).symm.trans K
    refine jx_next (pc := 68) (pc' := 69) rfl rfl ?_
    refine jx_next (pc := 69) (pc' := 71) rfl rfl ?_
    refine jx_next (pc := 71) (pc' := 73) rfl rfl ?_
    refine jx_next (pc := 73) (pc' := 74) rfl rfl ?_
    refine jx_next (pc := 74) (pc' := 75) rfl rfl ?_
    refine jx_next (pc := 75) (pc' := 76) rfl rfl ?_
    refine jx_stln (pc := 76) (p2 := [some (.ref 110), some (.int v1), some (.long (v2 * ((10 - v5).toInt64))), none, some (.int v4), some (.int v5)]) rfl (jlt rfl) rfl ?_
    refine jx_le (pl' := [some (.ref 110), some (.int v1), some (.long (v2 * ((10 - v5).toInt64))), none, some (.int v4), none]) (jle_v (jle_v (jle_v (jle_n (jle_v (jle_n jle_nil)))))) ?_
    exact kM_likely_l5_j77  hd K HL HE0
  · replace K := (if_neg hc8).symm.trans K
    refine jx_le (pl' := [some (.ref 110), some (.int v1), some (.long v2), none, some (.int v4), none]) (jle_v (jle_v (jle_v (jle_n (jle_v (jle_n jle_nil)))))) ?_
    exact kM_likely_l5_j77  hd K HL HE0
noncomputable def fM_likely_l5_j40 (v1 : Int32) (v2 : Int64) (v4 : Int32) (s0 : Int32) (h : jH) : Option ((Int64 × Int32) ⊕ (Int64)) :=
  (Option.bind (fM_howOf v4 h) (fun (z5 : Int32) =>
  (if z5 = 2 then
  fM_likely_l5_j58  v1 (v2 * s0.toInt64) v4 s0 h
  else
  fM_likely_l5_j58  v1 v2 v4 s0 h)))
theorem kM_likely_l5_j40 {X : jX} {dd : Nat} {p d : Nat} {q : Nat → Nat} {Q : Option Value → jS → Prop} {v1 : Int32} {v2 : Int64} {v4 : Int32} {s0 : Int32} {h : jH}  (hd : 1 ≤ (dd + 1)) {z : (Int64 × Int32) ⊕ (Int64)} (K : fM_likely_l5_j40 v1 v2 v4 s0 h = some z) (HL : ∀ s : Int64 × Int32, z = .inl s → jEx X (dd + 1) jc_291 5 [some (.ref 110), some (.int v1), some (.long s.1), none, some (.int s.2), none] [] (176, jRf p d q, h) Q) (HE0 : ∀ x : Int64, z = .inr x → jEx X (dd + 1) jc_291 83 [none, none, some (.long x), none, none, none] [] (176, jRf p d q, h) Q) :
    jEx X (dd + 1) jc_291 40 [some (.ref 110), some (.int v1), some (.long v2), none, some (.int v4), none] [.int s0] (176, jRf p d q, h) Q := by
  unfold fM_likely_l5_j40 at K
  refine jx_sti (pc := 40) (p2 := [some (.ref 110), some (.int v1), some (.long v2), none, some (.int v4), some (.int s0)]) rfl (jlt rfl) rfl ?_
  refine jx_next (pc := 42) (pc' := 43) rfl rfl ?_
  refine jx_next (pc := 43) (pc' := 45) rfl rfl ?_
  refine jx_callv (pc := 45) (o := 110) (rest := []) rfl ⟨by decide, by decide⟩ rfl jko_110 (Nat.le_of_ble_eq_true rfl) ?_
  obtain ⟨z5, hz_z5, K⟩ := Option.bind_eq_some_iff.mp K
  refine kM_howOf  (by omega) hz_z5 ?_
  refine jx_next (pc := 48) (pc' := 49) rfl rfl ?_
  refine jx_icne (pc := 49) rfl (fun hc6 => ?_) (fun hc6 => ?_)
  · replace K := (if_pos hc6).symm.trans K
    refine jx_next (pc := 52) (pc' := 53) rfl rfl ?_
    refine jx_next (pc := 53) (pc' := 55) rfl rfl ?_
    refine jx_next (pc := 55) (pc' := 56) rfl rfl ?_
    refine jx_next (pc := 56) (pc' := 57) rfl rfl ?_
    refine jx_stln (pc := 57) (p2 := [some (.ref 110), some (.int v1), some (.long (v2 * s0.toInt64)), none, some (.int v4), some (.int s0)]) rfl (jlt rfl) rfl ?_
    refine jx_le (pl' := [some (.ref 110), some (.int v1), some (.long (v2 * s0.toInt64)), none, some (.int v4), some (.int s0)]) (jle_v (jle_v (jle_v (jle_n (jle_v (jle_v jle_nil)))))) ?_
    exact kM_likely_l5_j58  hd K HL HE0
  · replace K := (if_neg hc6).symm.trans K
    refine jx_le (pl' := [some (.ref 110), some (.int v1), some (.long v2), none, some (.int v4), some (.int s0)]) (jle_v (jle_v (jle_v (jle_n (jle_v (jle_v jle_nil)))))) ?_
    exact kM_likely_l5_j58  hd K HL HE0
noncomputable def fM_likely_l5_b (v1 : Int32) (v2 : Int64) (v4 : Int32) (h : jH) : Option ((Int64 × Int32) ⊕ (Int64)) :=
  (Option.bind (fM_guestMany h) (fun (z1 : Int32) =>
  (if v4 < z1 then
  (Option.bind (fM_toldOf v4 h) (fun (z3 : Int32) =>
  (if 10 < (z3 + v1) then
  fM_likely_l5_j40  v1 v2 v4 10 h
  else
  (Option.bind (fM_toldOf v4 h) (fun (z9 : Int32) =>
  fM_likely_l5_j40  v1 v2 v4 (z9 + v1) h)))))
  else
  some (.inr v2))))
noncomputable def fM_likely_l5 (v1 : Int32) (h : jH) : (Int64 × Int32) → Option ((Int64 × Int32) ⊕ (Int64)) :=
  fun (s : Int64 × Int32) => fM_likely_l5_b v1 s.1 s.2 h
theorem kM_likely_l5_b {X : jX} {dd : Nat} {p d : Nat} {q : Nat → Nat} {Q : Option Value → jS → Prop} {v1 : Int32} {v2 : Int64} {v4 : Int32} {h : jH}  (hd : 1 ≤ (dd + 1)) {z : (Int64 × Int32) ⊕ (Int64)} (K : fM_likely_l5_b v1 v2 v4 h = some z) (HL : ∀ s : Int64 × Int32, z = .inl s → jEx X (dd + 1) jc_291 5 [some (.ref 110), some (.int v1), some (.long s.1), none, some (.int s.2), none] [] (176, jRf p d q, h) Q) (HE0 : ∀ x : Int64, z = .inr x → jEx X (dd + 1) jc_291 83 [none, none, some (.long x), none, none, none] [] (176, jRf p d q, h) Q) :
    jEx X (dd + 1) jc_291 5 [some (.ref 110), some (.int v1), some (.long v2), none, some (.int v4), none] [] (176, jRf p d q, h) Q := by
  unfold fM_likely_l5_b at K
  refine jx_next (pc := 5) (pc' := 7) rfl rfl ?_
  refine jx_next (pc := 7) (pc' := 8) rfl rfl ?_
  refine jx_callv (pc := 8) (o := 110) (rest := [.int v4]) rfl ⟨by decide, by decide⟩ rfl jko_110 (Nat.le_of_ble_eq_true rfl) ?_
  obtain ⟨z1, hz_z1, K⟩ := Option.bind_eq_some_iff.mp K
  refine kM_guestMany  (by omega) hz_z1 ?_
  refine jx_icge (pc := 11) rfl (fun hc2 => ?_) (fun hc2 => ?_)
  · replace K := (if_pos hc2).symm.trans K
    refine jx_next (pc := 14) (pc' := 15) rfl rfl ?_
    refine jx_next (pc := 15) (pc' := 17) rfl rfl ?_
    refine jx_callv (pc := 17) (o := 110) (rest := []) rfl ⟨by decide, by decide⟩ rfl jko_110 (Nat.le_of_ble_eq_true rfl) ?_
    obtain ⟨z3, hz_z3, K⟩ := Option.bind_eq_some_iff.mp K
    refine kM_toldOf  (by omega) hz_z3 ?_
    refine jx_next (pc := 20) (pc' := 21) rfl rfl ?_
    refine jx_next (pc := 21) (pc' := 22) rfl rfl ?_
    refine jx_next (pc := 22) (pc' := 24) rfl rfl ?_
    refine jx_icle (pc := 24) rfl (fun hc4 => ?_) (fun hc4 => ?_)
    · replace K := (if_pos hc4).symm.trans K
      refine jx_next (pc := 27) (pc' := 29) rfl rfl ?_
      refine jx_next (pc := 29) (pc' := 40) rfl rfl ?_
      refine jx_le (pl' := [some (.ref 110), some (.int v1), some (.long v2), none, some (.int v4), none]) (jle_v (jle_v (jle_v (jle_n (jle_v (jle_n jle_nil)))))) ?_
      exact kM_likely_l5_j40  hd K HL HE0
    · replace K := (if_neg hc4).symm.trans K
      refine jx_next (pc := 32) (pc' := 33) rfl rfl ?_
      refine jx_next (pc := 33) (pc' := 35) rfl rfl ?_
      refine jx_callv (pc := 35) (o := 110) (rest := []) rfl ⟨by decide, by decide⟩ rfl jko_110 (Nat.le_of_ble_eq_true rfl) ?_
      obtain ⟨z9, hz_z9, K⟩ := Option.bind_eq_some_iff.mp K
      refine kM_toldOf  (by omega) hz_z9 ?_
      refine jx_next (pc := 38) (pc' := 39) rfl rfl ?_
      refine jx_next (pc := 39) (pc' := 40) rfl rfl ?_
      refine jx_le (pl' := [some (.ref 110), some (.int v1), some (.long v2), none, some (.int v4), none]) (jle_v (jle_v (jle_v (jle_n (jle_v (jle_n jle_nil)))))) ?_
      exact kM_likely_l5_j40  hd K HL HE0
  · replace K := (if_neg hc2).symm.trans K
    obtain rfl := Option.some.inj K
    refine jx_le (pl' := [none, none, some (.long v2), none, none, none]) (jle_n (jle_n (jle_v (jle_n (jle_n (jle_n jle_nil)))))) ?_
    exact HE0 _ rfl
theorem kM_likely_l5_w {X : jX} {dd : Nat} {p d : Nat} {q : Nat → Nat} {Q : Option Value → jS → Prop} {v1 : Int32} {h : jH}  (hd : 1 ≤ (dd + 1)) {s : Int64 × Int32} {x : Int64} (K : jlim (fM_likely_l5 v1 h) s = some x) (HE : jEx X (dd + 1) jc_291 83 [none, none, some (.long x), none, none, none] [] (176, jRf p d q, h) Q) :
    jEx X (dd + 1) jc_291 5 [some (.ref 110), some (.int v1), some (.long s.1), none, some (.int s.2), none] [] (176, jRf p d q, h) Q := by
  refine jlim_ok (G := fun s : Int64 × Int32 => jEx X (dd + 1) jc_291 5 [some (.ref 110), some (.int v1), some (.long s.1), none, some (.int s.2), none] [] (176, jRf p d q, h) Q) (GX := fun x : Int64 => jEx X (dd + 1) jc_291 83 [none, none, some (.long x), none, none, none] [] (176, jRf p d q, h) Q) (fun s z hz HL HE => ?_) K HE
  exact kM_likely_l5_b  hd hz HL HE
/-- AndGuestModel.likely(I)J -/
noncomputable def fM_likely (v1 : Int32) (h : jH) : Option Int64 :=
  (Option.bind (jlim (fM_likely_l5  v1 h) (1, 0)) (fun (x10 : Int64) =>
  some (x10 : Int64)))
theorem kM_likely {X : jX} {dd : Nat} {p d : Nat} {q : Nat → Nat} {Q : Option Value → jS → Prop} {v1 : Int32} {h : jH}  (hd : 1 ≤ dd) {z : Int64} (K : fM_likely v1 h = some z) (HQ : Q (some (.long z)) (176, jRf p d q, h)) :
    jCa X dd 291 [.ref 110, .int v1] (176, jRf p d q, h) Q := by
  obtain ⟨dd, rfl⟩ : ∃ d9, dd = d9 + 1 := ⟨dd - 1, by omega⟩
  unfold fM_likely at K
  refine jCa_of (es := jc_291) (pl := [some (.ref 110), some (.int v1), none, none, none, none]) (M := jm_291) rfl rfl rfl rfl ?_
  refine jx_next (pc := 0) (pc' := 1) rfl rfl ?_
  refine jx_stln (pc := 1) (p2 := [some (.ref 110), some (.int v1), some (.long 1), none, none, none]) rfl (jlt rfl) rfl ?_
  refine jx_next (pc := 2) (pc' := 3) rfl rfl ?_
  refine jx_sti (pc := 3) (p2 := [some (.ref 110), some (.int v1), some (.long 1), none, some (.int 0), none]) rfl (jlt rfl) rfl ?_
  refine jx_le (pl' := [some (.ref 110), some (.int v1), some (.long 1), none, some (.int 0), none]) (jle_v (jle_v (jle_v (jle_n (jle_v (jle_n jle_nil)))))) ?_
  obtain ⟨x10, hz_x10, K⟩ := Option.bind_eq_some_iff.mp K
  refine kM_likely_l5_w  hd hz_x10 ?_
  refine jx_next (pc := 83) (pc' := 84) rfl rfl ?_
  obtain rfl := Option.some.inj K
  exact jx_ret (pc := 84) rfl rfl HQ
/-- AndGuestModel.full()I -/
noncomputable def fM_full  (h : jH) : Option Int32 :=
  (if (h.1 110 48) = 0 then
  some ((-1) : Int32)
  else
  (Option.bind (fM_likely 0 h) (fun (z2 : Int64) =>
  (if jin 5 6 then
  (Option.bind (fM_likely (h.1 144 (5 : Int32).toNatClampNeg) h) (fun (z4 : Int64) =>
  (if (z2 + z4) = 0 then
  some (500000 : Int32)
  else
  (if ¬ (z2 + z4) = 0 then
  some (((1000000 * z4) / (z2 + z4)).toInt32 : Int32)
  else none))))
  else none))))
theorem kM_full {X : jX} {dd : Nat} {p d : Nat} {q : Nat → Nat} {Q : Option Value → jS → Prop}  {h : jH}  (hd : 2 ≤ dd) {z : Int32} (K : fM_full  h = some z) (HQ : Q (some (.int z)) (176, jRf p d q, h)) :
    jCa X dd 290 [.ref 110] (176, jRf p d q, h) Q := by
  obtain ⟨dd, rfl⟩ : ∃ d9, dd = d9 + 1 := ⟨dd - 1, by omega⟩
  unfold fM_full at K
  refine jCa_of (es := jc_290) (pl := [some (.ref 110), none, none, none, none]) (M := jm_290) rfl rfl rfl rfl ?_
  refine jx_next (pc := 0) (pc' := 1) rfl rfl ?_
  refine jx_getz (pc := 1) rfl jko_110 ?_
  refine jx_ifne (pc := 4) rfl (fun hc1 => ?_) (fun hc1 => ?_)
  · replace K := (if_pos hc1).symm.trans K
    refine jx_next (pc := 7) (pc' := 8) rfl rfl ?_
    obtain rfl := Option.some.inj K
    exact jx_iret (pc := 8) rfl HQ
  · replace K := (if_neg hc1).symm.trans K
    refine jx_next (pc := 9) (pc' := 10) rfl rfl ?_
    refine jx_next (pc := 10) (pc' := 11) rfl rfl ?_
    refine jx_callv (pc := 11) (o := 110) (rest := []) rfl ⟨by decide, by decide⟩ rfl jko_110 (Nat.le_of_ble_eq_true rfl) ?_
    obtain ⟨z2, hz_z2, K⟩ := Option.bind_eq_some_iff.mp K
    refine kM_likely  (by omega) hz_z2 ?_
    refine jx_stln (pc := 14) (p2 := [some (.ref 110), some (.long z2), none, none, none]) rfl (jlt rfl) rfl ?_
    refine jx_next (pc := 15) (pc' := 16) rfl rfl ?_
    refine jx_next (pc := 16) (pc' := 17) rfl rfl ?_
    refine jx_getr2 (pc := 17) rfl jko_110 jr_12_42 ?_
    refine jx_next (pc := 20) (pc' := 21) rfl rfl ?_
    obtain ⟨hg3, K⟩ := jguard K
    refine jx_iald2 (pc := 21) rfl jko_144 jno_144 hg3 ?_
    refine jx_callv (pc := 22) (o := 110) (rest := []) rfl ⟨by decide, by decide⟩ rfl jko_110 (Nat.le_of_ble_eq_true rfl) ?_
    obtain ⟨z4, hz_z4, K⟩ := Option.bind_eq_some_iff.mp K
    refine kM_likely  (by omega) hz_z4 ?_
    refine jx_stln (pc := 25) (p2 := [some (.ref 110), some (.long z2), none, some (.long z4), none]) rfl (jlt rfl) rfl ?_
    refine jx_next (pc := 26) (pc' := 27) rfl rfl ?_
    refine jx_next (pc := 27) (pc' := 28) rfl rfl ?_
    refine jx_next (pc := 28) (pc' := 29) rfl rfl ?_
    refine jx_next (pc := 29) (pc' := 30) rfl rfl ?_
    refine jx_lcne (pc := 30) rfl rfl (fun hc5 => ?_) (fun hc5 => ?_)
    · replace K := (if_pos hc5).symm.trans K
      refine jx_next (pc := 34) (pc' := 37) rfl rfl ?_
      refine jx_next (pc := 37) (pc' := 50) rfl rfl ?_
      obtain rfl := Option.some.inj K
      exact jx_iret (pc := 50) rfl HQ
    · replace K := (if_neg hc5).symm.trans K
      refine jx_next (pc := 40) (pc' := 43) rfl rfl ?_
      refine jx_next (pc := 43) (pc' := 44) rfl rfl ?_
      refine jx_next (pc := 44) (pc' := 45) rfl rfl ?_
      refine jx_next (pc := 45) (pc' := 46) rfl rfl ?_
      refine jx_next (pc := 46) (pc' := 47) rfl rfl ?_
      refine jx_next (pc := 47) (pc' := 48) rfl rfl ?_
      obtain ⟨hg, K⟩ := jguard K
      refine jx_ldiv (pc := 48) rfl hg ?_
      refine jx_next (pc := 49) (pc' := 50) rfl rfl ?_
      obtain rfl := Option.some.inj K
      exact jx_iret (pc := 50) rfl HQ
noncomputable def fM_seen_l60_j109 (v1 : Int32) (v2 : Int32) (v3 : Int32) (v4 : Int32) (v5 : Int32) (v6 : Int32) (v7 : Int32) (h : jH) : Option ((Int32 × Int32 × Int32 × Int32) ⊕ (Int32 × Int32 × Int32)) :=
  some (.inl (v4, v5, v6, v7 + 1))
theorem kM_seen_l60_j109 {X : jX} {dd : Nat} {p d : Nat} {q : Nat → Nat} {Q : Option Value → jS → Prop} {v1 : Int32} {v2 : Int32} {v3 : Int32} {v4 : Int32} {v5 : Int32} {v6 : Int32} {v7 : Int32} {h : jH}  (hd : 2 ≤ (dd + 1)) {z : (Int32 × Int32 × Int32 × Int32) ⊕ (Int32 × Int32 × Int32)} (K : fM_seen_l60_j109 v1 v2 v3 v4 v5 v6 v7 h = some z) (HL : ∀ s : Int32 × Int32 × Int32 × Int32, z = .inl s → jEx X (dd + 1) jc_292 60 [some (.ref 110), some (.int v1), some (.int v2), some (.int v3), some (.int s.1), some (.int s.2.1), some (.int s.2.2.1), some (.int s.2.2.2)] [] (176, jRf p d q, h) Q) (HE0 : ∀ x : Int32 × Int32 × Int32, z = .inr x → jEx X (dd + 1) jc_292 115 [none, none, none, some (.int v3), some (.int x.1), some (.int x.2.1), some (.int x.2.2), none] [] (176, jRf p d q, h) Q) :
    jEx X (dd + 1) jc_292 109 [some (.ref 110), some (.int v1), some (.int v2), some (.int v3), some (.int v4), some (.int v5), some (.int v6), some (.int v7)] [] (176, jRf p d q, h) Q := by
  unfold fM_seen_l60_j109 at K
  refine jx_inc (pc := 109) (x := v7) (p2 := [some (.ref 110), some (.int v1), some (.int v2), some (.int v3), some (.int v4), some (.int v5), some (.int v6), some (.int (v7 + 1))]) rfl rfl (jlt rfl) rfl ?_
  refine jx_next (pc := 112) (pc' := 60) rfl rfl ?_
  obtain rfl := Option.some.inj K
  refine jx_le (pl' := [some (.ref 110), some (.int v1), some (.int v2), some (.int v3), some (.int v4), some (.int v5), some (.int v6), some (.int (v7 + 1))]) (jle_v (jle_v (jle_v (jle_v (jle_v (jle_v (jle_v (jle_v jle_nil)))))))) ?_
  exact HL (v4, v5, v6, v7 + 1) rfl
noncomputable def fM_seen_l60_b (v1 : Int32) (v2 : Int32) (v3 : Int32) (v4 : Int32) (v5 : Int32) (v6 : Int32) (v7 : Int32) (h : jH) : Option ((Int32 × Int32 × Int32 × Int32) ⊕ (Int32 × Int32 × Int32)) :=
  (Option.bind (fM_allGuests h) (fun (z9 : Int32) =>
  (if z9 < v7 then
  some (.inr (v4, v5, v6))
  else
  (Option.bind (fM_sizeBy v7 h) (fun (z11 : Int32) =>
  (if z11 = v1 then
  (Option.bind (fM_joyBy v7 h) (fun (z13 : Int32) =>
  (if z13 = v2 then
  fM_seen_l60_j109  v1 v2 v3 (v4 + 1) (v5 &&& v7) (v6 ||| v7) v7 h
  else
  fM_seen_l60_j109  v1 v2 v3 v4 v5 v6 v7 h)))
  else
  fM_seen_l60_j109  v1 v2 v3 v4 v5 v6 v7 h))))))
noncomputable def fM_seen_l60 (v1 : Int32) (v2 : Int32) (v3 : Int32) (h : jH) : (Int32 × Int32 × Int32 × Int32) → Option ((Int32 × Int32 × Int32 × Int32) ⊕ (Int32 × Int32 × Int32)) :=
  fun (s : Int32 × Int32 × Int32 × Int32) => fM_seen_l60_b v1 v2 v3 s.1 s.2.1 s.2.2.1 s.2.2.2 h
theorem kM_seen_l60_b {X : jX} {dd : Nat} {p d : Nat} {q : Nat → Nat} {Q : Option Value → jS → Prop} {v1 : Int32} {v2 : Int32} {v3 : Int32} {v4 : Int32} {v5 : Int32} {v6 : Int32} {v7 : Int32} {h : jH}  (hd : 2 ≤ (dd + 1)) {z : (Int32 × Int32 × Int32 × Int32) ⊕ (Int32 × Int32 × Int32)} (K : fM_seen_l60_b v1 v2 v3 v4 v5 v6 v7 h = some z) (HL : ∀ s : Int32 × Int32 × Int32 × Int32, z = .inl s → jEx X (dd + 1) jc_292 60 [some (.ref 110), some (.int v1), some (.int v2), some (.int v3), some (.int s.1), some (.int s.2.1), some (.int s.2.2.1), some (.int s.2.2.2)] [] (176, jRf p d q, h) Q) (HE0 : ∀ x : Int32 × Int32 × Int32, z = .inr x → jEx X (dd + 1) jc_292 115 [none, none, none, some (.int v3), some (.int x.1), some (.int x.2.1), some (.int x.2.2), none] [] (176, jRf p d q, h) Q) :
    jEx X (dd + 1) jc_292 60 [some (.ref 110), some (.int v1), some (.int v2), some (.int v3), some (.int v4), some (.int v5), some (.int v6), some (.int v7)] [] (176, jRf p d q, h) Q := by
  unfold fM_seen_l60_b at K
  refine jx_next (pc := 60) (pc' := 62) rfl rfl ?_
  refine jx_next (pc := 62) (pc' := 63) rfl rfl ?_
  refine jx_callv (pc := 63) (o := 110) (rest := [.int v7]) rfl ⟨by decide, by decide⟩ rfl jko_110 (Nat.le_of_ble_eq_true rfl) ?_
  obtain ⟨z9, hz_z9, K⟩ := Option.bind_eq_some_iff.mp K
  refine kM_allGuests  (by omega) hz_z9 ?_
  refine jx_icgt (pc := 66) rfl (fun hc10 => ?_) (fun hc10 => ?_)
  · replace K := (if_pos hc10).symm.trans K
    obtain rfl := Option.some.inj K
    refine jx_le (pl' := [none, none, none, some (.int v3), some (.int v4), some (.int v5), some (.int v6), none]) (jle_n (jle_n (jle_n (jle_v (jle_v (jle_v (jle_v (jle_n jle_nil)))))))) ?_
    exact HE0 _ rfl
  · replace K := (if_neg hc10).symm.trans K
    refine jx_next (pc := 69) (pc' := 70) rfl rfl ?_
    refine jx_next (pc := 70) (pc' := 72) rfl rfl ?_
    refine jx_callv (pc := 72) (o := 110) (rest := []) rfl ⟨by decide, by decide⟩ rfl jko_110 (Nat.le_of_ble_eq_true rfl) ?_
    obtain ⟨z11, hz_z11, K⟩ := Option.bind_eq_some_iff.mp K
    refine kM_sizeBy  (by omega) hz_z11 ?_
    refine jx_next (pc := 75) (pc' := 76) rfl rfl ?_
    refine jx_icne (pc := 76) rfl (fun hc12 => ?_) (fun hc12 => ?_)
    · replace K := (if_pos hc12).symm.trans K
      refine jx_next (pc := 79) (pc' := 80) rfl rfl ?_
      refine jx_next (pc := 80) (pc' := 82) rfl rfl ?_
      refine jx_callv (pc := 82) (o := 110) (rest := []) rfl ⟨by decide, by decide⟩ rfl jko_110 (Nat.le_of_ble_eq_true rfl) ?_
      obtain ⟨z13, hz_z13, K⟩ := Option.bind_eq_some_iff.mp K
      refine kM_joyBy  (by omega) hz_z13 ?_
      refine jx_next (pc := 85) (pc' := 86) rfl rfl ?_
      refine jx_iceq (pc := 86) rfl (fun hc14 => ?_) (fun hc14 => ?_)
      · replace K := (if_pos hc14).symm.trans K
        refine jx_inc (pc := 92) (x := v4) (p2 := [some (.ref 110), some (.int v1), some (.int v2), some (.int v3), some (.int (v4 + 1)), some (.int v5), some (.int v6), some (.int v7)]) rfl rfl (jlt rfl) rfl ?_
        refine jx_next (pc := 95) (pc' := 97) rfl rfl ?_
        refine jx_next (pc := 97) (pc' := 99) rfl rfl ?_
        refine jx_next (pc := 99) (pc' := 100) rfl rfl ?_
        refine jx_sti (pc := 100) (p2 := [some (.ref 110), some (.int v1), some (.int v2), some (.int v3), some (.int (v4 + 1)), some (.int (v5 &&& v7)), some (.int v6), some (.int v7)]) rfl (jlt rfl) rfl ?_
        refine jx_next (pc := 102) (pc' := 104) rfl rfl ?_
        refine jx_next (pc := 104) (pc' := 106) rfl rfl ?_
        refine jx_next (pc := 106) (pc' := 107) rfl rfl ?_
        refine jx_sti (pc := 107) (p2 := [some (.ref 110), some (.int v1), some (.int v2), some (.int v3), some (.int (v4 + 1)), some (.int (v5 &&& v7)), some (.int (v6 ||| v7)), some (.int v7)]) rfl (jlt rfl) rfl ?_
        refine jx_le (pl' := [some (.ref 110), some (.int v1), some (.int v2), some (.int v3), some (.int (v4 + 1)), some (.int (v5 &&& v7)), some (.int (v6 ||| v7)), some (.int v7)]) (jle_v (jle_v (jle_v (jle_v (jle_v (jle_v (jle_v (jle_v jle_nil)))))))) ?_
        exact kM_seen_l60_j109  hd K HL HE0
      · replace K := (if_neg hc14).symm.trans K
        refine jx_next (pc := 89) (pc' := 109) rfl rfl ?_
        refine jx_le (pl' := [some (.ref 110), some (.int v1), some (.int v2), some (.int v3), some (.int v4), some (.int v5), some (.int v6), some (.int v7)]) (jle_v (jle_v (jle_v (jle_v (jle_v (jle_v (jle_v (jle_v jle_nil)))))))) ?_
        exact kM_seen_l60_j109  hd K HL HE0
    · replace K := (if_neg hc12).symm.trans K
      refine jx_le (pl' := [some (.ref 110), some (.int v1), some (.int v2), some (.int v3), some (.int v4), some (.int v5), some (.int v6), some (.int v7)]) (jle_v (jle_v (jle_v (jle_v (jle_v (jle_v (jle_v (jle_v jle_nil)))))))) ?_
      exact kM_seen_l60_j109  hd K HL HE0
theorem kM_seen_l60_w {X : jX} {dd : Nat} {p d : Nat} {q : Nat → Nat} {Q : Option Value → jS → Prop} {v1 : Int32} {v2 : Int32} {v3 : Int32} {h : jH}  (hd : 2 ≤ (dd + 1)) {s : Int32 × Int32 × Int32 × Int32} {x : Int32 × Int32 × Int32} (K : jlim (fM_seen_l60 v1 v2 v3 h) s = some x) (HE : jEx X (dd + 1) jc_292 115 [none, none, none, some (.int v3), some (.int x.1), some (.int x.2.1), some (.int x.2.2), none] [] (176, jRf p d q, h) Q) :
    jEx X (dd + 1) jc_292 60 [some (.ref 110), some (.int v1), some (.int v2), some (.int v3), some (.int s.1), some (.int s.2.1), some (.int s.2.2.1), some (.int s.2.2.2)] [] (176, jRf p d q, h) Q := by
  refine jlim_ok (G := fun s : Int32 × Int32 × Int32 × Int32 => jEx X (dd + 1) jc_292 60 [some (.ref 110), some (.int v1), some (.int v2), some (.int v3), some (.int s.1), some (.int s.2.1), some (.int s.2.2.1), some (.int s.2.2.2)] [] (176, jRf p d q, h) Q) (GX := fun x : Int32 × Int32 × Int32 => jEx X (dd + 1) jc_292 115 [none, none, none, some (.int v3), some (.int x.1), some (.int x.2.1), some (.int x.2.2), none] [] (176, jRf p d q, h) Q) (fun s z hz HL HE => ?_) K HE
  exact kM_seen_l60_b  hd hz HL HE
/-- AndGuestModel.seen(III)I -/
noncomputable def fM_seen (v1 : Int32) (v2 : Int32) (v3 : Int32) (h : jH) : Option Int32 :=
  (if (h.1 110 48) = 0 then
  some ((-1) : Int32)
  else
  (if (fM_isIn v1.toInt64 0 32) = 0 then
  some ((-1) : Int32)
  else
  (if (fM_isIn v2.toInt64 0 792) = 0 then
  some ((-1) : Int32)
  else
  (if (fM_isIn v3.toInt64 0 2) = 0 then
  some ((-1) : Int32)
  else
  (Option.bind (fM_allGuests h) (fun (z8 : Int32) =>
  (Option.bind (jlim (fM_seen_l60  v1 v2 v3 h) (0, z8, 0, 0)) (fun (x15 : Int32 × Int32 × Int32) =>
  (if v3 = 0 then
  some (x15.1 : Int32)
  else
  (if v3 = 1 then
  (if x15.1 = 0 then
  some (0 : Int32)
  else
  some (x15.2.1 : Int32))
  else
  some (x15.2.2 : Int32)))))))))))
theorem kM_seen {X : jX} {dd : Nat} {p d : Nat} {q : Nat → Nat} {Q : Option Value → jS → Prop} {v1 : Int32} {v2 : Int32} {v3 : Int32} {h : jH}  (hd : 2 ≤ dd) {z : Int32} (K : fM_seen v1 v2 v3 h = some z) (HQ : Q (some (.int z)) (176, jRf p d q, h)) :
    jCa X dd 292 [.ref 110, .int v1, .int v2, .int v3] (176, jRf p d q, h) Q := by
  obtain ⟨dd, rfl⟩ : ∃ d9, dd = d9 + 1 := ⟨dd - 1, by omega⟩
  unfold fM_seen at K
  refine jCa_of (es := jc_292) (pl := [some (.ref 110), some (.int v1), some (.int v2), some (.int v3), none, none, none, none]) (M := jm_292) rfl rfl rfl rfl ?_
  refine jx_next (pc := 0) (pc' := 1) rfl rfl ?_
  refine jx_getz (pc := 1) rfl jko_110 ?_
  refine jx_ifeq (pc := 4) rfl (fun hc1 => ?_) (fun hc1 => ?_)
  · replace K := (if_pos hc1).symm.trans K
    refine jx_next (pc := 43) (pc' := 44) rfl rfl ?_
    obtain rfl := Option.some.inj K
    exact jx_iret (pc := 44) rfl HQ
  · replace K := (if_neg hc1).symm.trans K
    refine jx_next (pc := 7) (pc' := 8) rfl rfl ?_
    refine jx_next (pc := 8) (pc' := 9) rfl rfl ?_
    refine jx_next (pc := 9) (pc' := 10) rfl rfl ?_
    refine jx_next (pc := 10) (pc' := 13) rfl rfl ?_
    refine jx_calls (pc := 13) rfl (Nat.le_of_ble_eq_true rfl) (Nat.le_of_ble_eq_true rfl) ?_
    refine kM_isIn  (by omega) rfl ?_
    refine jx_ifeq (pc := 16) rfl (fun hc3 => ?_) (fun hc3 => ?_)
    · replace K := (if_pos hc3).symm.trans K
      refine jx_next (pc := 43) (pc' := 44) rfl rfl ?_
      obtain rfl := Option.some.inj K
      exact jx_iret (pc := 44) rfl HQ
    · replace K := (if_neg hc3).symm.trans K
      refine jx_next (pc := 19) (pc' := 20) rfl rfl ?_
      refine jx_next (pc := 20) (pc' := 21) rfl rfl ?_
      refine jx_next (pc := 21) (pc' := 22) rfl rfl ?_
      refine jx_next (pc := 22) (pc' := 25) rfl rfl ?_
      refine jx_calls (pc := 25) rfl (Nat.le_of_ble_eq_true rfl) (Nat.le_of_ble_eq_true rfl) ?_
      refine kM_isIn  (by omega) rfl ?_
      refine jx_ifeq (pc := 28) rfl (fun hc5 => ?_) (fun hc5 => ?_)
      · replace K := (if_pos hc5).symm.trans K
        refine jx_next (pc := 43) (pc' := 44) rfl rfl ?_
        obtain rfl := Option.some.inj K
        exact jx_iret (pc := 44) rfl HQ
      · replace K := (if_neg hc5).symm.trans K
        refine jx_next (pc := 31) (pc' := 32) rfl rfl ?_
        refine jx_next (pc := 32) (pc' := 33) rfl rfl ?_
        refine jx_next (pc := 33) (pc' := 34) rfl rfl ?_
        refine jx_next (pc := 34) (pc' := 37) rfl rfl ?_
        refine jx_calls (pc := 37) rfl (Nat.le_of_ble_eq_true rfl) (Nat.le_of_ble_eq_true rfl) ?_
        refine kM_isIn  (by omega) rfl ?_
        refine jx_ifne (pc := 40) rfl (fun hc7 => ?_) (fun hc7 => ?_)
        · replace K := (if_pos hc7).symm.trans K
          refine jx_next (pc := 43) (pc' := 44) rfl rfl ?_
          obtain rfl := Option.some.inj K
          exact jx_iret (pc := 44) rfl HQ
        · replace K := (if_neg hc7).symm.trans K
          refine jx_next (pc := 45) (pc' := 46) rfl rfl ?_
          refine jx_sti (pc := 46) (p2 := [some (.ref 110), some (.int v1), some (.int v2), some (.int v3), some (.int 0), none, none, none]) rfl (jlt rfl) rfl ?_
          refine jx_next (pc := 48) (pc' := 49) rfl rfl ?_
          refine jx_callv (pc := 49) (o := 110) (rest := []) rfl ⟨by decide, by decide⟩ rfl jko_110 (Nat.le_of_ble_eq_true rfl) ?_
          obtain ⟨z8, hz_z8, K⟩ := Option.bind_eq_some_iff.mp K
          refine kM_allGuests  (by omega) hz_z8 ?_
          refine jx_sti (pc := 52) (p2 := [some (.ref 110), some (.int v1), some (.int v2), some (.int v3), some (.int 0), some (.int z8), none, none]) rfl (jlt rfl) rfl ?_
          refine jx_next (pc := 54) (pc' := 55) rfl rfl ?_
          refine jx_sti (pc := 55) (p2 := [some (.ref 110), some (.int v1), some (.int v2), some (.int v3), some (.int 0), some (.int z8), some (.int 0), none]) rfl (jlt rfl) rfl ?_
          refine jx_next (pc := 57) (pc' := 58) rfl rfl ?_
          refine jx_sti (pc := 58) (p2 := [some (.ref 110), some (.int v1), some (.int v2), some (.int v3), some (.int 0), some (.int z8), some (.int 0), some (.int 0)]) rfl (jlt rfl) rfl ?_
          refine jx_le (pl' := [some (.ref 110), some (.int v1), some (.int v2), some (.int v3), some (.int 0), some (.int z8), some (.int 0), some (.int 0)]) (jle_v (jle_v (jle_v (jle_v (jle_v (jle_v (jle_v (jle_v jle_nil)))))))) ?_
          obtain ⟨x15, hz_x15, K⟩ := Option.bind_eq_some_iff.mp K
          refine kM_seen_l60_w  hd hz_x15 ?_
          refine jx_next (pc := 115) (pc' := 116) rfl rfl ?_
          refine jx_ifne (pc := 116) rfl (fun hc16 => ?_) (fun hc16 => ?_)
          · replace K := (if_pos hc16).symm.trans K
            refine jx_next (pc := 119) (pc' := 121) rfl rfl ?_
            refine jx_next (pc := 121) (pc' := 145) rfl rfl ?_
            obtain rfl := Option.some.inj K
            exact jx_iret (pc := 145) rfl HQ
          · replace K := (if_neg hc16).symm.trans K
            refine jx_next (pc := 124) (pc' := 125) rfl rfl ?_
            refine jx_next (pc := 125) (pc' := 126) rfl rfl ?_
            refine jx_icne (pc := 126) rfl (fun hc17 => ?_) (fun hc17 => ?_)
            · replace K := (if_pos hc17).symm.trans K
              refine jx_next (pc := 129) (pc' := 131) rfl rfl ?_
              refine jx_ifne (pc := 131) rfl (fun hc18 => ?_) (fun hc18 => ?_)
              · replace K := (if_pos hc18).symm.trans K
                refine jx_next (pc := 134) (pc' := 135) rfl rfl ?_
                refine jx_next (pc := 135) (pc' := 145) rfl rfl ?_
                obtain rfl := Option.some.inj K
                exact jx_iret (pc := 145) rfl HQ
              · replace K := (if_neg hc18).symm.trans K
                refine jx_next (pc := 138) (pc' := 140) rfl rfl ?_
                refine jx_next (pc := 140) (pc' := 145) rfl rfl ?_
                obtain rfl := Option.some.inj K
                exact jx_iret (pc := 145) rfl HQ
            · replace K := (if_neg hc17).symm.trans K
              refine jx_next (pc := 143) (pc' := 145) rfl rfl ?_
              obtain rfl := Option.some.inj K
              exact jx_iret (pc := 145) rfl HQ
