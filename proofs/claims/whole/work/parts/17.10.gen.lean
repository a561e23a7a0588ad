/-- AndGuestModel.qIsBracket(I)Z -/
noncomputable def fM_qIsBracket (v0 : Int32) : Int32 :=
  (if v0 < 20 then
  (0 : Int32)
  else
  (if 24 < v0 then
  (0 : Int32)
  else
  (1 : Int32)))
theorem kM_qIsBracket {X : jX} {dd : Nat} {p d : Nat} {q : Nat → Nat} {Q : Option Value → jS → Prop} {v0 : Int32} {h : jH}  (hd : 0 ≤ dd) {z : Int32} (K : fM_qIsBracket v0 = z) (HQ : Q (some (.int z)) (176, jRf p d q, h)) :
    jCa X dd 224 [.int v0] (176, jRf p d q, h) Q := by
  unfold fM_qIsBracket at K
  refine jCa_of (es := jc_224) (pl := [some (.int v0)]) (M := jm_224) rfl rfl rfl rfl ?_
  refine jx_next (pc := 0) (pc' := 1) rfl rfl ?_
  refine jx_next (pc := 1) (pc' := 3) rfl rfl ?_
  refine jx_iclt (pc := 3) rfl (fun hc1 => ?_) (fun hc1 => ?_)
  · replace K := (if_pos hc1).symm.trans K
    refine jx_next (pc := 16) (pc' := 17) rfl rfl ?_
    obtain rfl := K
    exact jx_zret (pc := 17) rfl (Or.inl rfl) HQ
  · replace K := (if_neg hc1).symm.trans K
    refine jx_next (pc := 6) (pc' := 7) rfl rfl ?_
    refine jx_next (pc := 7) (pc' := 9) rfl rfl ?_
    refine jx_icgt (pc := 9) rfl (fun hc2 => ?_) (fun hc2 => ?_)
    · replace K := (if_pos hc2).symm.trans K
      refine jx_next (pc := 16) (pc' := 17) rfl rfl ?_
      obtain rfl := K
      exact jx_zret (pc := 17) rfl (Or.inl rfl) HQ
    · replace K := (if_neg hc2).symm.trans K
      refine jx_next (pc := 12) (pc' := 13) rfl rfl ?_
      refine jx_next (pc := 13) (pc' := 17) rfl rfl ?_
      obtain rfl := K
      exact jx_zret (pc := 17) rfl (Or.inr rfl) HQ
noncomputable def fM_qBracket_l7_b (v1 : Int32) (h : jH) : Option ((Int32) ⊕ (Int32)) :=
  (if v1 < (h.1 110 84) then
  some (.inr v1)
  else
  (if jin v1 1700 then
  (if (fM_qIsBracket (h.1 174 v1.toNatClampNeg)) = 0 then
  some (.inl (v1 + (-1)))
  else
  some (.inr v1))
  else none))
noncomputable def fM_qBracket_l7  (h : jH) : Int32 → Option ((Int32) ⊕ (Int32)) :=
  fun (s : Int32) => fM_qBracket_l7_b s h
theorem kM_qBracket_l7_b {X : jX} {dd : Nat} {p d : Nat} {q : Nat → Nat} {Q : Option Value → jS → Prop} {v1 : Int32} {h : jH}  (hd : 1 ≤ (dd + 1)) {z : (Int32) ⊕ (Int32)} (K : fM_qBracket_l7_b v1 h = some z) (HL : ∀ s : Int32, z = .inl s → jEx X (dd + 1) jc_223 7 [some (.ref 110), some (.int s)] [] (176, jRf p d q, h) Q) (HE0 : ∀ x : Int32, z = .inr x → jEx X (dd + 1) jc_223 33 [some (.ref 110), some (.int x)] [] (176, jRf p d q, h) Q) :
    jEx X (dd + 1) jc_223 7 [some (.ref 110), some (.int v1)] [] (176, jRf p d q, h) Q := by
  unfold fM_qBracket_l7_b at K
  refine jx_next (pc := 7) (pc' := 8) rfl rfl ?_
  refine jx_next (pc := 8) (pc' := 9) rfl rfl ?_
  refine jx_geti (pc := 9) rfl jko_110 ?_
  refine jx_iclt (pc := 12) rfl (fun hc1 => ?_) (fun hc1 => ?_)
  · replace K := (if_pos hc1).symm.trans K
    obtain rfl := Option.some.inj K
    refine jx_le (pl' := [some (.ref 110), some (.int v1)]) (jle_v (jle_v jle_nil)) ?_
    exact HE0 _ rfl
  · replace K := (if_neg hc1).symm.trans K
    refine jx_next (pc := 15) (pc' := 16) rfl rfl ?_
    refine jx_getr2 (pc := 16) rfl jko_110 jr_12_81 ?_
    refine jx_next (pc := 19) (pc' := 20) rfl rfl ?_
    obtain ⟨hg2, K⟩ := jguard K
    refine jx_iald2 (pc := 20) rfl jko_174 jno_174 hg2 ?_
    refine jx_calls (pc := 21) rfl (Nat.le_of_ble_eq_true rfl) (Nat.le_of_ble_eq_true rfl) ?_
    refine kM_qIsBracket  (by omega) rfl ?_
    refine jx_ifne (pc := 24) rfl (fun hc4 => ?_) (fun hc4 => ?_)
    · replace K := (if_pos hc4).symm.trans K
      refine jx_inc (pc := 27) (x := v1) (p2 := [some (.ref 110), some (.int (v1 + (-1)))]) rfl rfl (jlt rfl) rfl ?_
      refine jx_next (pc := 30) (pc' := 7) rfl rfl ?_
      obtain rfl := Option.some.inj K
      refine jx_le (pl' := [some (.ref 110), some (.int (v1 + (-1)))]) (jle_v (jle_v jle_nil)) ?_
      exact HL (v1 + (-1)) rfl
    · replace K := (if_neg hc4).symm.trans K
      obtain rfl := Option.some.inj K
      refine jx_le (pl' := [some (.ref 110), some (.int v1)]) (jle_v (jle_v jle_nil)) ?_
      exact HE0 _ rfl
theorem kM_qBracket_l7_w {X : jX} {dd : Nat} {p d : Nat} {q : Nat → Nat} {Q : Option Value → jS → Prop}  {h : jH}  (hd : 1 ≤ (dd + 1)) {s : Int32} {x : Int32} (K : jlim (fM_qBracket_l7  h) s = some x) (HE : jEx X (dd + 1) jc_223 33 [some (.ref 110), some (.int x)] [] (176, jRf p d q, h) Q) :
    jEx X (dd + 1) jc_223 7 [some (.ref 110), some (.int s)] [] (176, jRf p d q, h) Q := by
  refine jlim_ok (G := fun s : Int32 => jEx X (dd + 1) jc_223 7 [some (.ref 110), some (.int s)] [] (176, jRf p d q, h) Q) (GX := fun x : Int32 => jEx X (dd + 1) jc_223 33 [some (.ref 110), some (.int x)] [] (176, jRf p d q, h) Q) (fun s z hz HL HE => ?_) K HE
  exact kM_qBracket_l7_b  hd hz HL HE
/-- AndGuestModel.qBracket()I -/
noncomputable def fM_qBracket  (h : jH) : Option Int32 :=
  (Option.bind (jlim (fM_qBracket_l7  h) ((h.1 110 82) - 1)) (fun (x5 : Int32) =>
  (if x5 < (h.1 110 84) then
  some ((-1) : Int32)
  else
  (if jin x5 1700 then
  some (h.1 174 x5.toNatClampNeg : Int32)
  else none))))
theorem kM_qBracket {X : jX} {dd : Nat} {p d : Nat} {q : Nat → Nat} {Q : Option Value → jS → Prop}  {h : jH}  (hd : 1 ≤ dd) {z : Int32} (K : fM_qBracket  h = some z) (HQ : Q (some (.int z)) (176, jRf p d q, h)) :
    jCa X dd 223 [.ref 110] (176, jRf p d q, h) Q := by
  obtain ⟨dd, rfl⟩ : ∃ d9, dd = d9 + 1 := ⟨dd - 1, by omega⟩
  unfold fM_qBracket at K
  refine jCa_of (es := jc_223) (pl := [some (.ref 110), none]) (M := jm_223) rfl rfl rfl rfl ?_
  refine jx_next (pc := 0) (pc' := 1) rfl rfl ?_
  refine jx_geti (pc := 1) rfl jko_110 ?_
  refine jx_next (pc := 4) (pc' := 5) rfl rfl ?_
  refine jx_next (pc := 5) (pc' := 6) rfl rfl ?_
  refine jx_stin (pc := 6) (p2 := [some (.ref 110), some (.int ((h.1 110 82) - 1))]) rfl (jlt rfl) rfl ?_
  refine jx_le (pl' := [some (.ref 110), some (.int ((h.1 110 82) - 1))]) (jle_v (jle_v jle_nil)) ?_
  obtain ⟨x5, hz_x5, K⟩ := Option.bind_eq_some_iff.mp K
  refine kM_qBracket_l7_w  hd hz_x5 ?_
  refine jx_next (pc := 33) (pc' := 34) rfl rfl ?_
  refine jx_next (pc := 34) (pc' := 35) rfl rfl ?_
  refine jx_geti (pc := 35) rfl jko_110 ?_
  refine jx_iclt (pc := 38) rfl (fun hc6 => ?_) (fun hc6 => ?_)
  · replace K := (if_pos hc6).symm.trans K
    refine jx_next (pc := 50) (pc' := 51) rfl rfl ?_
    obtain rfl := Option.some.inj K
    exact jx_iret (pc := 51) rfl HQ
  · replace K := (if_neg hc6).symm.trans K
    refine jx_next (pc := 41) (pc' := 42) rfl rfl ?_
    refine jx_getr2 (pc := 42) rfl jko_110 jr_12_81 ?_
    refine jx_next (pc := 45) (pc' := 46) rfl rfl ?_
    obtain ⟨hg7, K⟩ := jguard K
    refine jx_iald2 (pc := 46) rfl jko_174 jno_174 hg7 ?_
    refine jx_next (pc := 47) (pc' := 51) rfl rfl ?_
    obtain rfl := Option.some.inj K
    exact jx_iret (pc := 51) rfl HQ
noncomputable def fM_qDropsToBracket_l0_b  (h : jH) : Option ((jH) ⊕ (jH)) :=
  (if (h.1 110 84) < (h.1 110 82) then
  (if jin ((h.1 110 82) - 1) 1700 then
  (if (fM_qIsBracket (h.1 174 ((h.1 110 82) - 1).toNatClampNeg)) = 0 then
  (Option.bind (fM_qDrops h) (fun (z5 : jH) =>
  some (.inl z5)))
  else
  some (.inr h))
  else none)
  else
  some (.inr h))
noncomputable def fM_qDropsToBracket_l0  : jH → Option ((jH) ⊕ (jH)) :=
  fun (s : jH) => fM_qDropsToBracket_l0_b  s
theorem kM_qDropsToBracket_l0_b {X : jX} {dd : Nat} {p d : Nat} {q : Nat → Nat} {Q : Option Value → jS → Prop}  {h : jH}  (hd : 2 ≤ (dd + 1)) {z : (jH) ⊕ (jH)} (K : fM_qDropsToBracket_l0_b  h = some z) (HL : ∀ s : jH, z = .inl s → jEx X (dd + 1) jc_225 0 [some (.ref 110)] [] (176, jRf p d q, s) Q) (HE0 : ∀ x : jH, z = .inr x → jEx X (dd + 1) jc_225 35 [none] [] (176, jRf p d q, x) Q) :
    jEx X (dd + 1) jc_225 0 [some (.ref 110)] [] (176, jRf p d q, h) Q := by
  unfold fM_qDropsToBracket_l0_b at K
  refine jx_next (pc := 0) (pc' := 1) rfl rfl ?_
  refine jx_geti (pc := 1) rfl jko_110 ?_
  refine jx_next (pc := 4) (pc' := 5) rfl rfl ?_
  refine jx_geti (pc := 5) rfl jko_110 ?_
  refine jx_icle (pc := 8) rfl (fun hc1 => ?_) (fun hc1 => ?_)
  · replace K := (if_pos hc1).symm.trans K
    refine jx_next (pc := 11) (pc' := 12) rfl rfl ?_
    refine jx_getr2 (pc := 12) rfl jko_110 jr_12_81 ?_
    refine jx_next (pc := 15) (pc' := 16) rfl rfl ?_
    refine jx_geti (pc := 16) rfl jko_110 ?_
    refine jx_next (pc := 19) (pc' := 20) rfl rfl ?_
    refine jx_next (pc := 20) (pc' := 21) rfl rfl ?_
    obtain ⟨hg2, K⟩ := jguard K
    refine jx_iald2 (pc := 21) rfl jko_174 jno_174 hg2 ?_
    refine jx_calls (pc := 22) rfl (Nat.le_of_ble_eq_true rfl) (Nat.le_of_ble_eq_true rfl) ?_
    refine kM_qIsBracket  (by omega) rfl ?_
    refine jx_ifne (pc := 25) rfl (fun hc4 => ?_) (fun hc4 => ?_)
    · replace K := (if_pos hc4).symm.trans K
      refine jx_next (pc := 28) (pc' := 29) rfl rfl ?_
      refine jx_callv (pc := 29) (o := 110) (rest := []) rfl ⟨by decide, by decide⟩ rfl jko_110 (Nat.le_of_ble_eq_true rfl) ?_
      obtain ⟨z5, hz_z5, K⟩ := Option.bind_eq_some_iff.mp K
      refine kM_qDrops  (by omega) hz_z5 ?_
      refine jx_next (pc := 32) (pc' := 0) rfl rfl ?_
      obtain rfl := Option.some.inj K
      refine jx_le (pl' := [some (.ref 110)]) (jle_v jle_nil) ?_
      exact HL z5 rfl
    · replace K := (if_neg hc4).symm.trans K
      obtain rfl := Option.some.inj K
      refine jx_le (pl' := [none]) (jle_n jle_nil) ?_
      exact HE0 _ rfl
  · replace K := (if_neg hc1).symm.trans K
    obtain rfl := Option.some.inj K
    refine jx_le (pl' := [none]) (jle_n jle_nil) ?_
    exact HE0 _ rfl
theorem kM_qDropsToBracket_l0_w {X : jX} {dd : Nat} {p d : Nat} {q : Nat → Nat} {Q : Option Value → jS → Prop}   (hd : 2 ≤ (dd + 1)) {s : jH} {x : jH} (K : jlim (fM_qDropsToBracket_l0 ) s = some x) (HE : jEx X (dd + 1) jc_225 35 [none] [] (176, jRf p d q, x) Q) :
    jEx X (dd + 1) jc_225 0 [some (.ref 110)] [] (176, jRf p d q, s) Q := by
  refine jlim_ok (G := fun s : jH => jEx X (dd + 1) jc_225 0 [some (.ref 110)] [] (176, jRf p d q, s) Q) (GX := fun x : jH => jEx X (dd + 1) jc_225 35 [none] [] (176, jRf p d q, x) Q) (fun s z hz HL HE => ?_) K HE
  exact kM_qDropsToBracket_l0_b  hd hz HL HE
/-- AndGuestModel.qDropsToBracket()V -/
noncomputable def fM_qDropsToBracket  (h : jH) : Option jH :=
  (Option.bind (jlim (fM_qDropsToBracket_l0 ) h) (fun (x6 : jH) =>
  some x6))
theorem kM_qDropsToBracket {X : jX} {dd : Nat} {p d : Nat} {q : Nat → Nat} {Q : Option Value → jS → Prop}  {h : jH}  (hd : 2 ≤ dd) {z : jH} (K : fM_qDropsToBracket  h = some z) (HQ : Q none (176, jRf p d q, z)) :
    jCa X dd 225 [.ref 110] (176, jRf p d q, h) Q := by
  obtain ⟨dd, rfl⟩ : ∃ d9, dd = d9 + 1 := ⟨dd - 1, by omega⟩
  unfold fM_qDropsToBracket at K
  refine jCa_of (es := jc_225) (pl := [some (.ref 110)]) (M := jm_225) rfl rfl rfl rfl ?_
  refine jx_le (pl' := [some (.ref 110)]) (jle_v jle_nil) ?_
  obtain ⟨x6, hz_x6, K⟩ := Option.bind_eq_some_iff.mp K
  refine kM_qDropsToBracket_l0_w  hd hz_x6 ?_
  obtain rfl := Option.some.inj K
  exact jx_ret (pc := 35) rfl rfl HQ
/-- AndGuestModel.qIsOn(I)Z -/
noncomputable def fM_qIsOn (v1 : Int32) (h : jH) : Option Int32 :=
  (if 0 < (h.1 110 82) then
  (if jin ((h.1 110 82) - 1) 1700 then
  (if (h.1 174 ((h.1 110 82) - 1).toNatClampNeg) = v1 then
  some (1 : Int32)
  else
  some (0 : Int32))
  else none)
  else
  some (0 : Int32))
theorem kM_qIsOn {X : jX} {dd : Nat} {p d : Nat} {q : Nat → Nat} {Q : Option Value → jS → Prop} {v1 : Int32} {h : jH}  (hd : 0 ≤ dd) {z : Int32} (K : fM_qIsOn v1 h = some z) (HQ : Q (some (.int z)) (176, jRf p d q, h)) :
    jCa X dd 226 [.ref 110, .int v1] (176, jRf p d q, h) Q := by
  unfold fM_qIsOn at K
  refine jCa_of (es := jc_226) (pl := [some (.ref 110), some (.int v1)]) (M := jm_226) rfl rfl rfl rfl ?_
  refine jx_next (pc := 0) (pc' := 1) rfl rfl ?_
  refine jx_geti (pc := 1) rfl jko_110 ?_
  refine jx_ifle (pc := 4) rfl (fun hc1 => ?_) (fun hc1 => ?_)
  · replace K := (if_pos hc1).symm.trans K
    refine jx_next (pc := 7) (pc' := 8) rfl rfl ?_
    refine jx_getr2 (pc := 8) rfl jko_110 jr_12_81 ?_
    refine jx_next (pc := 11) (pc' := 12) rfl rfl ?_
    refine jx_geti (pc := 12) rfl jko_110 ?_
    refine jx_next (pc := 15) (pc' := 16) rfl rfl ?_
    refine jx_next (pc := 16) (pc' := 17) rfl rfl ?_
    obtain ⟨hg2, K⟩ := jguard K
    refine jx_iald2 (pc := 17) rfl jko_174 jno_174 hg2 ?_
    refine jx_next (pc := 18) (pc' := 19) rfl rfl ?_
    refine jx_icne (pc := 19) rfl (fun hc3 => ?_) (fun hc3 => ?_)
    · replace K := (if_pos hc3).symm.trans K
      refine jx_next (pc := 22) (pc' := 23) rfl rfl ?_
      refine jx_next (pc := 23) (pc' := 27) rfl rfl ?_
      obtain rfl := Option.some.inj K
      exact jx_zret (pc := 27) rfl (Or.inr rfl) HQ
    · replace K := (if_neg hc3).symm.trans K
      refine jx_next (pc := 26) (pc' := 27) rfl rfl ?_
      obtain rfl := Option.some.inj K
      exact jx_zret (pc := 27) rfl (Or.inl rfl) HQ
  · replace K := (if_neg hc1).symm.trans K
    refine jx_next (pc := 26) (pc' := 27) rfl rfl ?_
    obtain rfl := Option.some.inj K
    exact jx_zret (pc := 27) rfl (Or.inl rfl) HQ
noncomputable def fM_qGoesOn_l0_j115  (h : jH) : Option ((jH) ⊕ (jH)) :=
  (Option.bind (fM_qEndsPart h) (fun (z9 : jH) =>
  some (.inl z9)))
theorem kM_qGoesOn_l0_j115 {X : jX} {dd : Nat} {p d : Nat} {q : Nat → Nat} {Q : Option Value → jS → Prop}  {h : jH}  (hd : 3 ≤ (dd + 1)) {z : (jH) ⊕ (jH)} (K : fM_qGoesOn_l0_j115  h = some z) (HL : ∀ s : jH, z = .inl s → jEx X (dd + 1) jc_222 0 [some (.ref 110), none] [] (176, jRf p d q, s) Q) (HE0 : ∀ x : jH, z = .inr x → jEx X (dd + 1) jc_222 122 [some (.ref 110), none] [] (176, jRf p d q, x) Q) :
    jEx X (dd + 1) jc_222 115 [some (.ref 110), none] [] (176, jRf p d q, h) Q := by
  unfold fM_qGoesOn_l0_j115 at K
  refine jx_next (pc := 115) (pc' := 116) rfl rfl ?_
  refine jx_callv (pc := 116) (o := 110) (rest := []) rfl ⟨by decide, by decide⟩ rfl jko_110 (Nat.le_of_ble_eq_true rfl) ?_
  obtain ⟨z9, hz_z9, K⟩ := Option.bind_eq_some_iff.mp K
  refine kM_qEndsPart  (by omega) hz_z9 ?_
  refine jx_next (pc := 119) (pc' := 0) rfl rfl ?_
  obtain rfl := Option.some.inj K
  refine jx_le (pl' := [some (.ref 110), none]) (jle_v (jle_n jle_nil)) ?_
  exact HL z9 rfl
noncomputable def fM_qGoesOn_l0_j112 (s1 : Int32) (h : jH) : Option ((jH) ⊕ (jH)) :=
  (Option.bind (fM_qCode s1 h) (fun (z12 : jH) =>
  fM_qGoesOn_l0_j115  z12))
theorem kM_qGoesOn_l0_j112 {X : jX} {dd : Nat} {p d : Nat} {q : Nat → Nat} {Q : Option Value → jS → Prop} {s1 : Int32} {h : jH}  (hd : 3 ≤ (dd + 1)) {z : (jH) ⊕ (jH)} (K : fM_qGoesOn_l0_j112 s1 h = some z) (HL : ∀ s : jH, z = .inl s → jEx X (dd + 1) jc_222 0 [some (.ref 110), none] [] (176, jRf p d q, s) Q) (HE0 : ∀ x : jH, z = .inr x → jEx X (dd + 1) jc_222 122 [some (.ref 110), none] [] (176, jRf p d q, x) Q) :
    jEx X (dd + 1) jc_222 112 [some (.ref 110), none] [.int s1, .ref 110] (176, jRf p d q, h) Q := by
  unfold fM_qGoesOn_l0_j112 at K
  refine jx_callv (pc := 112) (o := 110) (rest := []) rfl ⟨by decide, by decide⟩ rfl jko_110 (Nat.le_of_ble_eq_true rfl) ?_
  obtain ⟨z12, hz_z12, K⟩ := Option.bind_eq_some_iff.mp K
  refine kM_qCode  (by omega) hz_z12 ?_
  refine jx_le (pl' := [some (.ref 110), none]) (jle_v (jle_n jle_nil)) ?_
  exact kM_qGoesOn_l0_j115  hd K HL HE0
noncomputable def fM_qGoesOn_l0_j43  (h : jH) : Option ((jH) ⊕ (jH)) :=
  (Option.bind (fM_qDropsToBracket (jhI h 110 2 ((h.1 110 2) + 1))) (fun (z6 : jH) =>
  (if jin ((jhI (jhI z6 110 82 ((z6.1 110 82) - 1)) 110 83 (((jhI z6 110 82 ((z6.1 110 82) - 1)).1 110 83) - 1)).1 110 82) 1700 then
  (if ((jhI (jhI z6 110 82 ((z6.1 110 82) - 1)) 110 83 (((jhI z6 110 82 ((z6.1 110 82) - 1)).1 110 83) - 1)).1 174 ((jhI (jhI z6 110 82 ((z6.1 110 82) - 1)) 110 83 (((jhI z6 110 82 ((z6.1 110 82) - 1)).1 110 83) - 1)).1 110 82).toNatClampNeg) = 20 then
  fM_qGoesOn_l0_j115  (jhI (jhI z6 110 82 ((z6.1 110 82) - 1)) 110 83 (((jhI z6 110 82 ((z6.1 110 82) - 1)).1 110 83) - 1))
  else
  (if jin ((jhI (jhI z6 110 82 ((z6.1 110 82) - 1)) 110 83 (((jhI z6 110 82 ((z6.1 110 82) - 1)).1 110 83) - 1)).1 110 82) 1700 then
  (if ((jhI (jhI z6 110 82 ((z6.1 110 82) - 1)) 110 83 (((jhI z6 110 82 ((z6.1 110 82) - 1)).1 110 83) - 1)).1 174 ((jhI (jhI z6 110 82 ((z6.1 110 82) - 1)) 110 83 (((jhI z6 110 82 ((z6.1 110 82) - 1)).1 110 83) - 1)).1 110 82).toNatClampNeg) = 23 then
  fM_qGoesOn_l0_j112  5 (jhI (jhI z6 110 82 ((z6.1 110 82) - 1)) 110 83 (((jhI z6 110 82 ((z6.1 110 82) - 1)).1 110 83) - 1))
  else
  fM_qGoesOn_l0_j112  6 (jhI (jhI z6 110 82 ((z6.1 110 82) - 1)) 110 83 (((jhI z6 110 82 ((z6.1 110 82) - 1)).1 110 83) - 1)))
  else none))
  else none)))
theorem kM_qGoesOn_l0_j43 {X : jX} {dd : Nat} {p d : Nat} {q : Nat → Nat} {Q : Option Value → jS → Prop}  {h : jH}  (hd : 3 ≤ (dd + 1)) {z : (jH) ⊕ (jH)} (K : fM_qGoesOn_l0_j43  h = some z) (HL : ∀ s : jH, z = .inl s → jEx X (dd + 1) jc_222 0 [some (.ref 110), none] [] (176, jRf p d q, s) Q) (HE0 : ∀ x : jH, z = .inr x → jEx X (dd + 1) jc_222 122 [some (.ref 110), none] [] (176, jRf p d q, x) Q) :
    jEx X (dd + 1) jc_222 43 [some (.ref 110), none] [] (176, jRf p d q, h) Q := by
  unfold fM_qGoesOn_l0_j43 at K
  refine jx_next (pc := 43) (pc' := 44) rfl rfl ?_
  refine jx_next (pc := 44) (pc' := 45) rfl rfl ?_
  refine jx_geti (pc := 45) rfl jko_110 ?_
  refine jx_next (pc := 48) (pc' := 49) rfl rfl ?_
  refine jx_next (pc := 49) (pc' := 50) rfl rfl ?_
  refine jx_puti (pc := 50) rfl jko_110 ?_
  refine jx_next (pc := 53) (pc' := 54) rfl rfl ?_
  refine jx_callv (pc := 54) (o := 110) (rest := []) rfl ⟨by decide, by decide⟩ rfl jko_110 (Nat.le_of_ble_eq_true rfl) ?_
  obtain ⟨z6, hz_z6, K⟩ := Option.bind_eq_some_iff.mp K
  refine kM_qDropsToBracket  (by omega) hz_z6 ?_
  refine jx_next (pc := 57) (pc' := 58) rfl rfl ?_
  refine jx_next (pc := 58) (pc' := 59) rfl rfl ?_
  refine jx_geti (pc := 59) rfl jko_110 ?_
  refine jx_next (pc := 62) (pc' := 63) rfl rfl ?_
  refine jx_next (pc := 63) (pc' := 64) rfl rfl ?_
  refine jx_puti (pc := 64) rfl jko_110 ?_
  refine jx_next (pc := 67) (pc' := 68) rfl rfl ?_
  refine jx_next (pc := 68) (pc' := 69) rfl rfl ?_
  refine jx_geti (pc := 69) rfl jko_110 ?_
  refine jx_next (pc := 72) (pc' := 73) rfl rfl ?_
  refine jx_next (pc := 73) (pc' := 74) rfl rfl ?_
  refine jx_puti (pc := 74) rfl jko_110 ?_
  refine jx_next (pc := 77) (pc' := 78) rfl rfl ?_
  refine jx_getr2 (pc := 78) rfl jko_110 jr_12_81 ?_
  refine jx_next (pc := 81) (pc' := 82) rfl rfl ?_
  refine jx_geti (pc := 82) rfl jko_110 ?_
  obtain ⟨hg7, K⟩ := jguard K
  refine jx_iald2 (pc := 85) rfl jko_174 jno_174 hg7 ?_
  refine jx_next (pc := 86) (pc' := 88) rfl rfl ?_
  refine jx_iceq (pc := 88) rfl (fun hc8 => ?_) (fun hc8 => ?_)
  · replace K := (if_pos hc8).symm.trans K
    refine jx_le (pl' := [some (.ref 110), none]) (jle_v (jle_n jle_nil)) ?_
    exact kM_qGoesOn_l0_j115  hd K HL HE0
  · replace K := (if_neg hc8).symm.trans K
    refine jx_next (pc := 91) (pc' := 92) rfl rfl ?_
    refine jx_next (pc := 92) (pc' := 93) rfl rfl ?_
    refine jx_getr2 (pc := 93) rfl jko_110 jr_12_81 ?_
    refine jx_next (pc := 96) (pc' := 97) rfl rfl ?_
    refine jx_geti (pc := 97) rfl jko_110 ?_
    obtain ⟨hg10, K⟩ := jguard K
    refine jx_iald2 (pc := 100) rfl jko_174 jno_174 hg10 ?_
    refine jx_next (pc := 101) (pc' := 103) rfl rfl ?_
    refine jx_icne (pc := 103) rfl (fun hc11 => ?_) (fun hc11 => ?_)
    · replace K := (if_pos hc11).symm.trans K
      refine jx_next (pc := 106) (pc' := 107) rfl rfl ?_
      refine jx_next (pc := 107) (pc' := 112) rfl rfl ?_
      refine jx_le (pl' := [some (.ref 110), none]) (jle_v (jle_n jle_nil)) ?_
      exact kM_qGoesOn_l0_j112  hd K HL HE0
    · replace K := (if_neg hc11).symm.trans K
      refine jx_next (pc := 110) (pc' := 112) rfl rfl ?_
      refine jx_le (pl' := [some (.ref 110), none]) (jle_v (jle_n jle_nil)) ?_
      exact kM_qGoesOn_l0_j112  hd K HL HE0
noncomputable def fM_qGoesOn_l0_b  (h : jH) : Option ((jH) ⊕ (jH)) :=
  (if (h.1 110 5) = 0 then
  (Option.bind (fM_look h) (fun (z2 : Int32 × jH) =>
  (if z2.1 = 41 then
  (Option.bind (fM_qBracket z2.2) (fun (z4 : Int32) =>
  (if z4 = 20 then
  fM_qGoesOn_l0_j43  z2.2
  else
  (Option.bind (fM_qBracket z2.2) (fun (z13 : Int32) =>
  (if z13 = 23 then
  fM_qGoesOn_l0_j43  z2.2
  else
  (Option.bind (fM_qBracket z2.2) (fun (z15 : Int32) =>
  (if z15 = 24 then
  fM_qGoesOn_l0_j43  z2.2
  else
  some (.inr z2.2))))))))))
  else
  some (.inr z2.2))))
  else
  some (.inr h))
noncomputable def fM_qGoesOn_l0  : jH → Option ((jH) ⊕ (jH)) :=
  fun (s : jH) => fM_qGoesOn_l0_b  s
theorem kM_qGoesOn_l0_b {X : jX} {dd : Nat} {p d : Nat} {q : Nat → Nat} {Q : Option Value → jS → Prop}  {h : jH}  (hd : 3 ≤ (dd + 1)) {z : (jH) ⊕ (jH)} (K : fM_qGoesOn_l0_b  h = some z) (HL : ∀ s : jH, z = .inl s → jEx X (dd + 1) jc_222 0 [some (.ref 110), none] [] (176, jRf p d q, s) Q) (HE0 : ∀ x : jH, z = .inr x → jEx X (dd + 1) jc_222 122 [some (.ref 110), none] [] (176, jRf p d q, x) Q) :
    jEx X (dd + 1) jc_222 0 [some (.ref 110), none] [] (176, jRf p d q, h) Q := by
  unfold fM_qGoesOn_l0_b at K
  refine jx_next (pc := 0) (pc' := 1) rfl rfl ?_
  refine jx_geti (pc := 1) rfl jko_110 ?_
  refine jx_ifne (pc := 4) rfl (fun hc1 => ?_) (fun hc1 => ?_)
  · replace K := (if_pos hc1).symm.trans K
    refine jx_next (pc := 7) (pc' := 8) rfl rfl ?_
    refine jx_callv (pc := 8) (o := 110) (rest := []) rfl ⟨by decide, by decide⟩ rfl jko_110 (Nat.le_of_ble_eq_true rfl) ?_
    obtain ⟨z2, hz_z2, K⟩ := Option.bind_eq_some_iff.mp K
    refine kM_look  (by omega) hz_z2 ?_
    refine jx_next (pc := 11) (pc' := 13) rfl rfl ?_
    refine jx_icne (pc := 13) rfl (fun hc3 => ?_) (fun hc3 => ?_)
    · replace K := (if_pos hc3).symm.trans K
      refine jx_next (pc := 16) (pc' := 17) rfl rfl ?_
      refine jx_callv (pc := 17) (o := 110) (rest := []) rfl ⟨by decide, by decide⟩ rfl jko_110 (Nat.le_of_ble_eq_true rfl) ?_
      obtain ⟨z4, hz_z4, K⟩ := Option.bind_eq_some_iff.mp K
      refine kM_qBracket  (by omega) hz_z4 ?_
      refine jx_next (pc := 20) (pc' := 22) rfl rfl ?_
      refine jx_iceq (pc := 22) rfl (fun hc5 => ?_) (fun hc5 => ?_)
      · replace K := (if_pos hc5).symm.trans K
        refine jx_le (pl' := [some (.ref 110), none]) (jle_v (jle_n jle_nil)) ?_
        exact kM_qGoesOn_l0_j43  hd K HL HE0
      · replace K := (if_neg hc5).symm.trans K
        refine jx_next (pc := 25) (pc' := 26) rfl rfl ?_
        refine jx_callv (pc := 26) (o := 110) (rest := []) rfl ⟨by decide, by decide⟩ rfl jko_110 (Nat.le_of_ble_eq_true rfl) ?_
        obtain ⟨z13, hz_z13, K⟩ := Option.bind_eq_some_iff.mp K
        refine kM_qBracket  (by omega) hz_z13 ?_
        refine jx_next (pc := 29) (pc' := 31) rfl rfl ?_
        refine jx_iceq (pc := 31) rfl (fun hc14 => ?_) (fun hc14 => ?_)
        · replace K := (if_pos hc14).symm.trans K
          refine jx_le (pl' := [some (.ref 110), none]) (jle_v (jle_n jle_nil)) ?_
          exact kM_qGoesOn_l0_j43  hd K HL HE0
        · replace K := (if_neg hc14).symm.trans K
          refine jx_next (pc := 34) (pc' := 35) rfl rfl ?_
          refine jx_callv (pc := 35) (o := 110) (rest := []) rfl ⟨by decide, by decide⟩ rfl jko_110 (Nat.le_of_ble_eq_true rfl) ?_
          obtain ⟨z15, hz_z15, K⟩ := Option.bind_eq_some_iff.mp K
          refine kM_qBracket  (by omega) hz_z15 ?_
          refine jx_next (pc := 38) (pc' := 40) rfl rfl ?_
          refine jx_icne (pc := 40) rfl (fun hc16 => ?_) (fun hc16 => ?_)
          · replace K := (if_pos hc16).symm.trans K
            refine jx_le (pl' := [some (.ref 110), none]) (jle_v (jle_n jle_nil)) ?_
            exact kM_qGoesOn_l0_j43  hd K HL HE0
          · replace K := (if_neg hc16).symm.trans K
            obtain rfl := Option.some.inj K
            refine jx_le (pl' := [some (.ref 110), none]) (jle_v (jle_n jle_nil)) ?_
            exact HE0 _ rfl
    · replace K := (if_neg hc3).symm.trans K
      obtain rfl := Option.some.inj K
      refine jx_le (pl' := [some (.ref 110), none]) (jle_v (jle_n jle_nil)) ?_
      exact HE0 _ rfl
  · replace K := (if_neg hc1).symm.trans K
    obtain rfl := Option.some.inj K
    refine jx_le (pl' := [some (.ref 110), none]) (jle_v (jle_n jle_nil)) ?_
    exact HE0 _ rfl
theorem kM_qGoesOn_l0_w {X : jX} {dd : Nat} {p d : Nat} {q : Nat → Nat} {Q : Option Value → jS → Prop}   (hd : 3 ≤ (dd + 1)) {s : jH} {x : jH} (K : jlim (fM_qGoesOn_l0 ) s = some x) (HE : jEx X (dd + 1) jc_222 122 [some (.ref 110), none] [] (176, jRf p d q, x) Q) :
    jEx X (dd + 1) jc_222 0 [some (.ref 110), none] [] (176, jRf p d q, s) Q := by
  refine jlim_ok (G := fun s : jH => jEx X (dd + 1) jc_222 0 [some (.ref 110), none] [] (176, jRf p d q, s) Q) (GX := fun x : jH => jEx X (dd + 1) jc_222 122 [some (.ref 110), none] [] (176, jRf p d q, x) Q) (fun s z hz HL HE => ?_) K HE
  exact kM_qGoesOn_l0_b  hd hz HL HE
noncomputable def fM_qGoesOn_j326  (h : jH) : Option (Int32 × jH) :=
  (Option.bind (fM_asksSign 44 h) (fun (z28 : jH) =>
  (if (z28.1 110 5) = 0 then
  (Option.bind (fM_qDropsToBracket z28) (fun (z30 : jH) =>
  (if jin ((z30.1 110 82) - 1) 1700 then
  (if jin ((z30.1 110 82) - 1) 1700 then
  some (1, jhI z30 174 ((z30.1 110 82) - 1).toNatClampNeg ((z30.1 174 ((z30.1 110 82) - 1).toNatClampNeg) + 2))
  else none)
  else none)))
  else
  some (0, z28))))
theorem kM_qGoesOn_j326 {X : jX} {dd : Nat} {p d : Nat} {q : Nat → Nat} {Q : Option Value → jS → Prop}  {h : jH}  (hd : 3 ≤ (dd + 1)) {z : Int32 × jH} (K : fM_qGoesOn_j326  h = some z) (HQ : Q (some (.int z.1)) (176, jRf p d q, z.2)) :
    jEx X (dd + 1) jc_222 326 [some (.ref 110), none] [] (176, jRf p d q, h) Q := by
  unfold fM_qGoesOn_j326 at K
  refine jx_next (pc := 326) (pc' := 327) rfl rfl ?_
  refine jx_next (pc := 327) (pc' := 329) rfl rfl ?_
  refine jx_callv (pc := 329) (o := 110) (rest := []) rfl ⟨by decide, by decide⟩ rfl jko_110 (Nat.le_of_ble_eq_true rfl) ?_
  obtain ⟨z28, hz_z28, K⟩ := Option.bind_eq_some_iff.mp K
  refine kM_asksSign  (by omega) hz_z28 ?_
  refine jx_next (pc := 332) (pc' := 333) rfl rfl ?_
  refine jx_geti (pc := 333) rfl jko_110 ?_
  refine jx_ifeq (pc := 336) rfl (fun hc29 => ?_) (fun hc29 => ?_)
  · replace K := (if_pos hc29).symm.trans K
    refine jx_next (pc := 341) (pc' := 342) rfl rfl ?_
    refine jx_callv (pc := 342) (o := 110) (rest := []) rfl ⟨by decide, by decide⟩ rfl jko_110 (Nat.le_of_ble_eq_true rfl) ?_
    obtain ⟨z30, hz_z30, K⟩ := Option.bind_eq_some_iff.mp K
    refine kM_qDropsToBracket  (by omega) hz_z30 ?_
    refine jx_next (pc := 345) (pc' := 346) rfl rfl ?_
    refine jx_getr2 (pc := 346) rfl jko_110 jr_12_81 ?_
    refine jx_next (pc := 349) (pc' := 350) rfl rfl ?_
    refine jx_geti (pc := 350) rfl jko_110 ?_
    refine jx_next (pc := 353) (pc' := 354) rfl rfl ?_
    refine jx_next (pc := 354) (pc' := 355) rfl rfl ?_
    refine jx_next (pc := 355) (pc' := 356) rfl rfl ?_
    obtain ⟨hg31, K⟩ := jguard K
    refine jx_iald2 (pc := 356) rfl jko_174 jno_174 hg31 ?_
    refine jx_next (pc := 357) (pc' := 358) rfl rfl ?_
    refine jx_next (pc := 358) (pc' := 359) rfl rfl ?_
    obtain ⟨hg32, K⟩ := jguard K
    refine jx_iast2 (pc := 359) rfl jko_174 jno_174 hg32 ?_
    refine jx_next (pc := 360) (pc' := 361) rfl rfl ?_
    obtain rfl := Option.some.inj K
    exact jx_zret (pc := 361) rfl (Or.inr rfl) HQ
  · replace K := (if_neg hc29).symm.trans K
    refine jx_next (pc := 339) (pc' := 340) rfl rfl ?_
    obtain rfl := Option.some.inj K
    exact jx_zret (pc := 340) rfl (Or.inl rfl) HQ
noncomputable def fM_qGoesOn_l247_j279 (v1 : Int32) (h : jH) : Option ((jH) ⊕ (jH)) :=
  (Option.bind (fM_qDrops h) (fun (z49 : jH) =>
  some (.inl z49)))
theorem kM_qGoesOn_l247_j279 {X : jX} {dd : Nat} {p d : Nat} {q : Nat → Nat} {Q : Option Value → jS → Prop} {v1 : Int32} {h : jH}  (hd : 3 ≤ (dd + 1)) {z : (jH) ⊕ (jH)} (K : fM_qGoesOn_l247_j279 v1 h = some z) (HL : ∀ s : jH, z = .inl s → jEx X (dd + 1) jc_222 247 [some (.ref 110), some (.int v1)] [] (176, jRf p d q, s) Q) (HE0 : ∀ x : jH, z = .inr x → jEx X (dd + 1) jc_222 286 [some (.ref 110), some (.int v1)] [] (176, jRf p d q, x) Q) :
    jEx X (dd + 1) jc_222 279 [some (.ref 110), some (.int v1)] [] (176, jRf p d q, h) Q := by
  unfold fM_qGoesOn_l247_j279 at K
  refine jx_next (pc := 279) (pc' := 280) rfl rfl ?_
  refine jx_callv (pc := 280) (o := 110) (rest := []) rfl ⟨by decide, by decide⟩ rfl jko_110 (Nat.le_of_ble_eq_true rfl) ?_
  obtain ⟨z49, hz_z49, K⟩ := Option.bind_eq_some_iff.mp K
  refine kM_qDrops  (by omega) hz_z49 ?_
  refine jx_next (pc := 283) (pc' := 247) rfl rfl ?_
  obtain rfl := Option.some.inj K
  refine jx_le (pl' := [some (.ref 110), some (.int v1)]) (jle_v (jle_v jle_nil)) ?_
  exact HL z49 rfl
noncomputable def fM_qGoesOn_l247_b (v1 : Int32) (h : jH) : Option ((jH) ⊕ (jH)) :=
  (Option.bind (fM_qIsOn 3 h) (fun (z41 : Int32) =>
  (if z41 = 0 then
  (Option.bind (fM_qIsOn 4 h) (fun (z43 : Int32) =>
  (if z43 = 0 then
  (Option.bind (fM_qIsOn 1 h) (fun (z45 : Int32) =>
  (if z45 = 0 then
  (Option.bind (fM_qIsOn 2 h) (fun (z47 : Int32) =>
  (if z47 = 0 then
  some (.inr h)
  else
  fM_qGoesOn_l247_j279  v1 h)))
  else
  fM_qGoesOn_l247_j279  v1 h)))
  else
  fM_qGoesOn_l247_j279  v1 h)))
  else
  fM_qGoesOn_l247_j279  v1 h)))
noncomputable def fM_qGoesOn_l247 (v1 : Int32) : jH → Option ((jH) ⊕ (jH)) :=
  fun (s : jH) => fM_qGoesOn_l247_b v1 s
theorem kM_qGoesOn_l247_b {X : jX} {dd : Nat} {p d : Nat} {q : Nat → Nat} {Q : Option Value → jS → Prop} {v1 : Int32} {h : jH}  (hd : 3 ≤ (dd + 1)) {z : (jH) ⊕ (jH)} (K : fM_qGoesOn_l247_b v1 h = some z) (HL : ∀ s : jH, z = .inl s → jEx X (dd + 1) jc_222 247 [some (.ref 110), some (.int v1)] [] (176, jRf p d q, s) Q) (HE0 : ∀ x : jH, z = .inr x → jEx X (dd + 1) jc_222 286 [some (.ref 110), some (.int v1)] [] (176, jRf p d q, x) Q) :
    jEx X (dd + 1) jc_222 247 [some (.ref 110), some (.int v1)] [] (176, jRf p d q, h) Q := by
  unfold fM_qGoesOn_l247_b at K
  refine jx_next (pc := 247) (pc' := 248) rfl rfl ?_
  refine jx_next (pc := 248) (pc' := 249) rfl rfl ?_
  refine jx_callv (pc := 249) (o := 110) (rest := []) rfl ⟨by decide, by decide⟩ rfl jko_110 (Nat.le_of_ble_eq_true rfl) ?_
  obtain ⟨z41, hz_z41, K⟩ := Option.bind_eq_some_iff.mp K
  refine kM_qIsOn  (by omega) hz_z41 ?_
  refine jx_ifne (pc := 252) rfl (fun hc42 => ?_) (fun hc42 => ?_)
  · replace K := (if_pos hc42).symm.trans K
    refine jx_next (pc := 255) (pc' := 256) rfl rfl ?_
    refine jx_next (pc := 256) (pc' := 257) rfl rfl ?_
    refine jx_callv (pc := 257) (o := 110) (rest := []) rfl ⟨by decide, by decide⟩ rfl jko_110 (Nat.le_of_ble_eq_true rfl) ?_
    obtain ⟨z43, hz_z43, K⟩ := Option.bind_eq_some_iff.mp K
    refine kM_qIsOn  (by omega) hz_z43 ?_
    refine jx_ifne (pc := 260) rfl (fun hc44 => ?_) (fun hc44 => ?_)
    · replace K := (if_pos hc44).symm.trans K
      refine jx_next (pc := 263) (pc' := 264) rfl rfl ?_
      refine jx_next (pc := 264) (pc' := 265) rfl rfl ?_
      refine jx_callv (pc := 265) (o := 110) (rest := []) rfl ⟨by decide, by decide⟩ rfl jko_110 (Nat.le_of_ble_eq_true rfl) ?_
      obtain ⟨z45, hz_z45, K⟩ := Option.bind_eq_some_iff.mp K
      refine kM_qIsOn  (by omega) hz_z45 ?_
      refine jx_ifne (pc := 268) rfl (fun hc46 => ?_) (fun hc46 => ?_)
      · replace K := (if_pos hc46).symm.trans K
        refine jx_next (pc := 271) (pc' := 272) rfl rfl ?_
        refine jx_next (pc := 272) (pc' := 273) rfl rfl ?_
        refine jx_callv (pc := 273) (o := 110) (rest := []) rfl ⟨by decide, by decide⟩ rfl jko_110 (Nat.le_of_ble_eq_true rfl) ?_
        obtain ⟨z47, hz_z47, K⟩ := Option.bind_eq_some_iff.mp K
        refine kM_qIsOn  (by omega) hz_z47 ?_
        refine jx_ifeq (pc := 276) rfl (fun hc48 => ?_) (fun hc48 => ?_)
        · replace K := (if_pos hc48).symm.trans K
          obtain rfl := Option.some.inj K
          refine jx_le (pl' := [some (.ref 110), some (.int v1)]) (jle_v (jle_v jle_nil)) ?_
          exact HE0 _ rfl
        · replace K := (if_neg hc48).symm.trans K
          refine jx_le (pl' := [some (.ref 110), some (.int v1)]) (jle_v (jle_v jle_nil)) ?_
          exact kM_qGoesOn_l247_j279  hd K HL HE0
      · replace K := (if_neg hc46).symm.trans K
        refine jx_le (pl' := [some (.ref 110), some (.int v1)]) (jle_v (jle_v jle_nil)) ?_
        exact kM_qGoesOn_l247_j279  hd K HL HE0
    · replace K := (if_neg hc44).symm.trans K
      refine jx_le (pl' := [some (.ref 110), some (.int v1)]) (jle_v (jle_v jle_nil)) ?_
      exact kM_qGoesOn_l247_j279  hd K HL HE0
  · replace K := (if_neg hc42).symm.trans K
    refine jx_le (pl' := [some (.ref 110), some (.int v1)]) (jle_v (jle_v jle_nil)) ?_
    exact kM_qGoesOn_l247_j279  hd K HL HE0
theorem kM_qGoesOn_l247_w {X : jX} {dd : Nat} {p d : Nat} {q : Nat → Nat} {Q : Option Value → jS → Prop} {v1 : Int32}  (hd : 3 ≤ (dd + 1)) {s : jH} {x : jH} (K : jlim (fM_qGoesOn_l247 v1) s = some x) (HE : jEx X (dd + 1) jc_222 286 [some (.ref 110), some (.int v1)] [] (176, jRf p d q, x) Q) :
    jEx X (dd + 1) jc_222 247 [some (.ref 110), some (.int v1)] [] (176, jRf p d q, s) Q := by
  refine jlim_ok (G := fun s : jH => jEx X (dd + 1) jc_222 247 [some (.ref 110), some (.int v1)] [] (176, jRf p d q, s) Q) (GX := fun x : jH => jEx X (dd + 1) jc_222 286 [some (.ref 110), some (.int v1)] [] (176, jRf p d q, x) Q) (fun s z hz HL HE => ?_) K HE
  exact kM_qGoesOn_l247_b  hd hz HL HE
noncomputable def fM_qGoesOn_j246 (s0 : Int32) (h : jH) : Option (Int32 × jH) :=
  (Option.bind (jlim (fM_qGoesOn_l247  s0) h) (fun (x50 : jH) =>
  (if jin (x50.1 110 82) 1700 then
  some (1, jhI (jhI x50 174 (x50.1 110 82).toNatClampNeg s0) 110 82 (((jhI x50 174 (x50.1 110 82).toNatClampNeg s0).1 110 82) + 1))
  else none)))
theorem kM_qGoesOn_j246 {X : jX} {dd : Nat} {p d : Nat} {q : Nat → Nat} {Q : Option Value → jS → Prop} {s0 : Int32} {h : jH}  (hd : 3 ≤ (dd + 1)) {z : Int32 × jH} (K : fM_qGoesOn_j246 s0 h = some z) (HQ : Q (some (.int z.1)) (176, jRf p d q, z.2)) :
    jEx X (dd + 1) jc_222 246 [some (.ref 110), none] [.int s0] (176, jRf p d q, h) Q := by
  unfold fM_qGoesOn_j246 at K
  refine jx_stin (pc := 246) (p2 := [some (.ref 110), some (.int s0)]) rfl (jlt rfl) rfl ?_
  refine jx_le (pl' := [some (.ref 110), some (.int s0)]) (jle_v (jle_v jle_nil)) ?_
  obtain ⟨x50, hz_x50, K⟩ := Option.bind_eq_some_iff.mp K
  refine kM_qGoesOn_l247_w  hd hz_x50 ?_
  refine jx_next (pc := 286) (pc' := 287) rfl rfl ?_
  refine jx_getr2 (pc := 287) rfl jko_110 jr_12_81 ?_
  refine jx_next (pc := 290) (pc' := 291) rfl rfl ?_
  refine jx_geti (pc := 291) rfl jko_110 ?_
  refine jx_next (pc := 294) (pc' := 295) rfl rfl ?_
  obtain ⟨hg51, K⟩ := jguard K
  refine jx_iast2 (pc := 295) rfl jko_174 jno_174 hg51 ?_
  refine jx_next (pc := 296) (pc' := 297) rfl rfl ?_
  refine jx_next (pc := 297) (pc' := 298) rfl rfl ?_
  refine jx_geti (pc := 298) rfl jko_110 ?_
  refine jx_next (pc := 301) (pc' := 302) rfl rfl ?_
  refine jx_next (pc := 302) (pc' := 303) rfl rfl ?_
  refine jx_puti (pc := 303) rfl jko_110 ?_
  refine jx_next (pc := 306) (pc' := 307) rfl rfl ?_
  obtain rfl := Option.some.inj K
  exact jx_zret (pc := 307) rfl (Or.inr rfl) HQ
noncomputable def fM_qGoesOn_j225  (h : jH) : Option (Int32 × jH) :=
  (if jin ((h.1 110 2) - 1) 1600 then
  (if (h.1 111 ((h.1 110 2) - 1).toNatClampNeg) = 43 then
  fM_qGoesOn_j246  1 h
  else
  fM_qGoesOn_j246  2 h)
  else none)
theorem kM_qGoesOn_j225 {X : jX} {dd : Nat} {p d : Nat} {q : Nat → Nat} {Q : Option Value → jS → Prop}  {h : jH}  (hd : 3 ≤ (dd + 1)) {z : Int32 × jH} (K : fM_qGoesOn_j225  h = some z) (HQ : Q (some (.int z.1)) (176, jRf p d q, z.2)) :
    jEx X (dd + 1) jc_222 225 [some (.ref 110), none] [] (176, jRf p d q, h) Q := by
  unfold fM_qGoesOn_j225 at K
  refine jx_next (pc := 225) (pc' := 226) rfl rfl ?_
  refine jx_getr2 (pc := 226) rfl jko_110 jr_12_0 ?_
  refine jx_next (pc := 229) (pc' := 230) rfl rfl ?_
  refine jx_geti (pc := 230) rfl jko_110 ?_
  refine jx_next (pc := 233) (pc' := 234) rfl rfl ?_
  refine jx_next (pc := 234) (pc' := 235) rfl rfl ?_
  obtain ⟨hg39, K⟩ := jguard K
  refine jx_iald2 (pc := 235) rfl jko_111 jno_111 hg39 ?_
  refine jx_next (pc := 236) (pc' := 238) rfl rfl ?_
  refine jx_icne (pc := 238) rfl (fun hc40 => ?_) (fun hc40 => ?_)
  · replace K := (if_pos hc40).symm.trans K
    refine jx_next (pc := 241) (pc' := 242) rfl rfl ?_
    refine jx_next (pc := 242) (pc' := 246) rfl rfl ?_
    refine jx_le (pl' := [some (.ref 110), none]) (jle_v (jle_n jle_nil)) ?_
    exact kM_qGoesOn_j246  hd K HQ
  · replace K := (if_neg hc40).symm.trans K
    refine jx_next (pc := 245) (pc' := 246) rfl rfl ?_
    refine jx_le (pl' := [some (.ref 110), none]) (jle_v (jle_n jle_nil)) ?_
    exact kM_qGoesOn_j246  hd K HQ
noncomputable def fM_qGoesOn_l162_j178 (v1 : Int32) (h : jH) : Option ((jH) ⊕ (jH)) :=
  (Option.bind (fM_qDrops h) (fun (z58 : jH) =>
  some (.inl z58)))
theorem kM_qGoesOn_l162_j178 {X : jX} {dd : Nat} {p d : Nat} {q : Nat → Nat} {Q : Option Value → jS → Prop} {v1 : Int32} {h : jH}  (hd : 3 ≤ (dd + 1)) {z : (jH) ⊕ (jH)} (K : fM_qGoesOn_l162_j178 v1 h = some z) (HL : ∀ s : jH, z = .inl s → jEx X (dd + 1) jc_222 162 [some (.ref 110), some (.int v1)] [] (176, jRf p d q, s) Q) (HE0 : ∀ x : jH, z = .inr x → jEx X (dd + 1) jc_222 185 [some (.ref 110), some (.int v1)] [] (176, jRf p d q, x) Q) :
    jEx X (dd + 1) jc_222 178 [some (.ref 110), some (.int v1)] [] (176, jRf p d q, h) Q := by
  unfold fM_qGoesOn_l162_j178 at K
  refine jx_next (pc := 178) (pc' := 179) rfl rfl ?_
  refine jx_callv (pc := 179) (o := 110) (rest := []) rfl ⟨by decide, by decide⟩ rfl jko_110 (Nat.le_of_ble_eq_true rfl) ?_
  obtain ⟨z58, hz_z58, K⟩ := Option.bind_eq_some_iff.mp K
  refine kM_qDrops  (by omega) hz_z58 ?_
  refine jx_next (pc := 182) (pc' := 162) rfl rfl ?_
  obtain rfl := Option.some.inj K
  refine jx_le (pl' := [some (.ref 110), some (.int v1)]) (jle_v (jle_v jle_nil)) ?_
  exact HL z58 rfl
noncomputable def fM_qGoesOn_l162_b (v1 : Int32) (h : jH) : Option ((jH) ⊕ (jH)) :=
  (Option.bind (fM_qIsOn 3 h) (fun (z54 : Int32) =>
  (if z54 = 0 then
  (Option.bind (fM_qIsOn 4 h) (fun (z56 : Int32) =>
  (if z56 = 0 then
  some (.inr h)
  else
  fM_qGoesOn_l162_j178  v1 h)))
  else
  fM_qGoesOn_l162_j178  v1 h)))
noncomputable def fM_qGoesOn_l162 (v1 : Int32) : jH → Option ((jH) ⊕ (jH)) :=
  fun (s : jH) => fM_qGoesOn_l162_b v1 s
theorem kM_qGoesOn_l162_b {X : jX} {dd : Nat} {p d : Nat} {q : Nat → Nat} {Q : Option Value → jS → Prop} {v1 : Int32} {h : jH}  (hd : 3 ≤ (dd + 1)) {z : (jH) ⊕ (jH)} (K : fM_qGoesOn_l162_b v1 h = some z) (HL : ∀ s : jH, z = .inl s → jEx X (dd + 1) jc_222 162 [some (.ref 110), some (.int v1)] [] (176, jRf p d q, s) Q) (HE0 : ∀ x : jH, z = .inr x → jEx X (dd + 1) jc_222 185 [some (.ref 110), some (.int v1)] [] (176, jRf p d q, x) Q) :
    jEx X (dd + 1) jc_222 162 [some (.ref 110), some (.int v1)] [] (176, jRf p d q, h) Q := by
  unfold fM_qGoesOn_l162_b at K
  refine jx_next (pc := 162) (pc' := 163) rfl rfl ?_
  refine jx_next (pc := 163) (pc' := 164) rfl rfl ?_
  refine jx_callv (pc := 164) (o := 110) (rest := []) rfl ⟨by decide, by decide⟩ rfl jko_110 (Nat.le_of_ble_eq_true rfl) ?_
  obtain ⟨z54, hz_z54, K⟩ := Option.bind_eq_some_iff.mp K
  refine kM_qIsOn  (by omega) hz_z54 ?_
  refine jx_ifne (pc := 167) rfl (fun hc55 => ?_) (fun hc55 => ?_)
  · replace K := (if_pos hc55).symm.trans K
    refine jx_next (pc := 170) (pc' := 171) rfl rfl ?_
    refine jx_next (pc := 171) (pc' := 172) rfl rfl ?_
    refine jx_callv (pc := 172) (o := 110) (rest := []) rfl ⟨by decide, by decide⟩ rfl jko_110 (Nat.le_of_ble_eq_true rfl) ?_
    obtain ⟨z56, hz_z56, K⟩ := Option.bind_eq_some_iff.mp K
    refine kM_qIsOn  (by omega) hz_z56 ?_
    refine jx_ifeq (pc := 175) rfl (fun hc57 => ?_) (fun hc57 => ?_)
    · replace K := (if_pos hc57).symm.trans K
      obtain rfl := Option.some.inj K
      refine jx_le (pl' := [some (.ref 110), some (.int v1)]) (jle_v (jle_v jle_nil)) ?_
      exact HE0 _ rfl
    · replace K := (if_neg hc57).symm.trans K
      refine jx_le (pl' := [some (.ref 110), some (.int v1)]) (jle_v (jle_v jle_nil)) ?_
      exact kM_qGoesOn_l162_j178  hd K HL HE0
  · replace K := (if_neg hc55).symm.trans K
    refine jx_le (pl' := [some (.ref 110), some (.int v1)]) (jle_v (jle_v jle_nil)) ?_
    exact kM_qGoesOn_l162_j178  hd K HL HE0
theorem kM_qGoesOn_l162_w {X : jX} {dd : Nat} {p d : Nat} {q : Nat → Nat} {Q : Option Value → jS → Prop} {v1 : Int32}  (hd : 3 ≤ (dd + 1)) {s : jH} {x : jH} (K : jlim (fM_qGoesOn_l162 v1) s = some x) (HE : jEx X (dd + 1) jc_222 185 [some (.ref 110), some (.int v1)] [] (176, jRf p d q, x) Q) :
    jEx X (dd + 1) jc_222 162 [some (.ref 110), some (.int v1)] [] (176, jRf p d q, s) Q := by
  refine jlim_ok (G := fun s : jH => jEx X (dd + 1) jc_222 162 [some (.ref 110), some (.int v1)] [] (176, jRf p d q, s) Q) (GX := fun x : jH => jEx X (dd + 1) jc_222 185 [some (.ref 110), some (.int v1)] [] (176, jRf p d q, x) Q) (fun s z hz HL HE => ?_) K HE
  exact kM_qGoesOn_l162_b  hd hz HL HE
noncomputable def fM_qGoesOn_j161 (s0 : Int32) (h : jH) : Option (Int32 × jH) :=
  (Option.bind (jlim (fM_qGoesOn_l162  s0) h) (fun (x59 : jH) =>
  (if jin (x59.1 110 82) 1700 then
  some (1, jhI (jhI x59 174 (x59.1 110 82).toNatClampNeg s0) 110 82 (((jhI x59 174 (x59.1 110 82).toNatClampNeg s0).1 110 82) + 1))
  else none)))
theorem kM_qGoesOn_j161 {X : jX} {dd : Nat} {p d : Nat} {q : Nat → Nat} {Q : Option Value → jS → Prop} {s0 : Int32} {h : jH}  (hd : 3 ≤ (dd + 1)) {z : Int32 × jH} (K : fM_qGoesOn_j161 s0 h = some z) (HQ : Q (some (.int z.1)) (176, jRf p d q, z.2)) :
    jEx X (dd + 1) jc_222 161 [some (.ref 110), none] [.int s0] (176, jRf p d q, h) Q := by
  unfold fM_qGoesOn_j161 at K
  refine jx_stin (pc := 161) (p2 := [some (.ref 110), some (.int s0)]) rfl (jlt rfl) rfl ?_
  refine jx_le (pl' := [some (.ref 110), some (.int s0)]) (jle_v (jle_v jle_nil)) ?_
  obtain ⟨x59, hz_x59, K⟩ := Option.bind_eq_some_iff.mp K
  refine kM_qGoesOn_l162_w  hd hz_x59 ?_
  refine jx_next (pc := 185) (pc' := 186) rfl rfl ?_
  refine jx_getr2 (pc := 186) rfl jko_110 jr_12_81 ?_
  refine jx_next (pc := 189) (pc' := 190) rfl rfl ?_
  refine jx_geti (pc := 190) rfl jko_110 ?_
  refine jx_next (pc := 193) (pc' := 194) rfl rfl ?_
  obtain ⟨hg60, K⟩ := jguard K
  refine jx_iast2 (pc := 194) rfl jko_174 jno_174 hg60 ?_
  refine jx_next (pc := 195) (pc' := 196) rfl rfl ?_
  refine jx_next (pc := 196) (pc' := 197) rfl rfl ?_
  refine jx_geti (pc := 197) rfl jko_110 ?_
  refine jx_next (pc := 200) (pc' := 201) rfl rfl ?_
  refine jx_next (pc := 201) (pc' := 202) rfl rfl ?_
  refine jx_puti (pc := 202) rfl jko_110 ?_
  refine jx_next (pc := 205) (pc' := 206) rfl rfl ?_
  obtain rfl := Option.some.inj K
  exact jx_zret (pc := 206) rfl (Or.inr rfl) HQ
noncomputable def fM_qGoesOn_j140  (h : jH) : Option (Int32 × jH) :=
  (if jin ((h.1 110 2) - 1) 1600 then
  (if (h.1 111 ((h.1 110 2) - 1).toNatClampNeg) = 42 then
  fM_qGoesOn_j161  3 h
  else
  fM_qGoesOn_j161  4 h)
  else none)
theorem kM_qGoesOn_j140 {X : jX} {dd : Nat} {p d : Nat} {q : Nat → Nat} {Q : Option Value → jS → Prop}  {h : jH}  (hd : 3 ≤ (dd + 1)) {z : Int32 × jH} (K : fM_qGoesOn_j140  h = some z) (HQ : Q (some (.int z.1)) (176, jRf p d q, z.2)) :
    jEx X (dd + 1) jc_222 140 [some (.ref 110), none] [] (176, jRf p d q, h) Q := by
  unfold fM_qGoesOn_j140 at K
  refine jx_next (pc := 140) (pc' := 141) rfl rfl ?_
  refine jx_getr2 (pc := 141) rfl jko_110 jr_12_0 ?_
  refine jx_next (pc := 144) (pc' := 145) rfl rfl ?_
  refine jx_geti (pc := 145) rfl jko_110 ?_
  refine jx_next (pc := 148) (pc' := 149) rfl rfl ?_
  refine jx_next (pc := 149) (pc' := 150) rfl rfl ?_
  obtain ⟨hg52, K⟩ := jguard K
  refine jx_iald2 (pc := 150) rfl jko_111 jno_111 hg52 ?_
  refine jx_next (pc := 151) (pc' := 153) rfl rfl ?_
  refine jx_icne (pc := 153) rfl (fun hc53 => ?_) (fun hc53 => ?_)
  · replace K := (if_pos hc53).symm.trans K
    refine jx_next (pc := 156) (pc' := 157) rfl rfl ?_
    refine jx_next (pc := 157) (pc' := 161) rfl rfl ?_
    refine jx_le (pl' := [some (.ref 110), none]) (jle_v (jle_n jle_nil)) ?_
    exact kM_qGoesOn_j161  hd K HQ
  · replace K := (if_neg hc53).symm.trans K
    refine jx_next (pc := 160) (pc' := 161) rfl rfl ?_
    refine jx_le (pl' := [some (.ref 110), none]) (jle_v (jle_n jle_nil)) ?_
    exact kM_qGoesOn_j161  hd K HQ
/-- AndGuestModel.qGoesOn()Z -/
noncomputable def fM_qGoesOn  (h : jH) : Option (Int32 × jH) :=
  (Option.bind (jlim (fM_qGoesOn_l0 ) h) (fun (x17 : jH) =>
  (Option.bind (fM_takesSign 42 x17) (fun (z18 : Int32 × jH) =>
  (if z18.1 = 0 then
  (Option.bind (fM_takesSign 47 z18.2) (fun (z20 : Int32 × jH) =>
  (if z20.1 = 0 then
  (Option.bind (fM_takesSign 43 z20.2) (fun (z22 : Int32 × jH) =>
  (if z22.1 = 0 then
  (Option.bind (fM_takesSign 45 z22.2) (fun (z24 : Int32 × jH) =>
  (if z24.1 = 0 then
  (Option.bind (fM_qBracket z24.2) (fun (z26 : Int32) =>
  (if z26 = 21 then
  fM_qGoesOn_j326  z24.2
  else
  (Option.bind (fM_qBracket z24.2) (fun (z33 : Int32) =>
  (if z33 = 22 then
  fM_qGoesOn_j326  z24.2
  else
  (Option.bind (fM_qBracket z24.2) (fun (z35 : Int32) =>
  (if z35 = (-1) then
  some (0, z24.2)
  else
  (if (z24.2.1 110 5) = 0 then
  some (0, (fM_fail 1 (z24.2.1 110 2) z24.2))
  else
  some (0, z24.2)))))))))))
  else
  fM_qGoesOn_j225  z24.2)))
  else
  fM_qGoesOn_j225  z22.2)))
  else
  fM_qGoesOn_j140  z20.2)))
  else
  fM_qGoesOn_j140  z18.2)))))
theorem kM_qGoesOn {X : jX} {dd : Nat} {p d : Nat} {q : Nat → Nat} {Q : Option Value → jS → Prop}  {h : jH}  (hd : 3 ≤ dd) {z : Int32 × jH} (K : fM_qGoesOn  h = some z) (HQ : Q (some (.int z.1)) (176, jRf p d q, z.2)) :
    jCa X dd 222 [.ref 110] (176, jRf p d q, h) Q := by
  obtain ⟨dd, rfl⟩ : ∃ d9, dd = d9 + 1 := ⟨dd - 1, by omega⟩
  unfold fM_qGoesOn at K
  refine jCa_of (es := jc_222) (pl := [some (.ref 110), none]) (M := jm_222) rfl rfl rfl rfl ?_
  refine jx_le (pl' := [some (.ref 110), none]) (jle_v (jle_n jle_nil)) ?_
  obtain ⟨x17, hz_x17, K⟩ := Option.bind_eq_some_iff.mp K
  refine kM_qGoesOn_l0_w  hd hz_x17 ?_
  refine jx_next (pc := 122) (pc' := 123) rfl rfl ?_
  refine jx_next (pc := 123) (pc' := 125) rfl rfl ?_
  refine jx_callv (pc := 125) (o := 110) (rest := []) rfl ⟨by decide, by decide⟩ rfl jko_110 (Nat.le_of_ble_eq_true rfl) ?_
  obtain ⟨z18, hz_z18, K⟩ := Option.bind_eq_some_iff.mp K
  refine kM_takesSign  (by omega) hz_z18 ?_
  refine jx_ifne (pc := 128) rfl (fun hc19 => ?_) (fun hc19 => ?_)
  · replace K := (if_pos hc19).symm.trans K
    refine jx_next (pc := 131) (pc' := 132) rfl rfl ?_
    refine jx_next (pc := 132) (pc' := 134) rfl rfl ?_
    refine jx_callv (pc := 134) (o := 110) (rest := []) rfl ⟨by decide, by decide⟩ rfl jko_110 (Nat.le_of_ble_eq_true rfl) ?_
    obtain ⟨z20, hz_z20, K⟩ := Option.bind_eq_some_iff.mp K
    refine kM_takesSign  (by omega) hz_z20 ?_
    refine jx_ifeq (pc := 137) rfl (fun hc21 => ?_) (fun hc21 => ?_)
    · replace K := (if_pos hc21).symm.trans K
      refine jx_next (pc := 207) (pc' := 208) rfl rfl ?_
      refine jx_next (pc := 208) (pc' := 210) rfl rfl ?_
      refine jx_callv (pc := 210) (o := 110) (rest := []) rfl ⟨by decide, by decide⟩ rfl jko_110 (Nat.le_of_ble_eq_true rfl) ?_
      obtain ⟨z22, hz_z22, K⟩ := Option.bind_eq_some_iff.mp K
      refine kM_takesSign  (by omega) hz_z22 ?_
      refine jx_ifne (pc := 213) rfl (fun hc23 => ?_) (fun hc23 => ?_)
      · replace K := (if_pos hc23).symm.trans K
        refine jx_next (pc := 216) (pc' := 217) rfl rfl ?_
        refine jx_next (pc := 217) (pc' := 219) rfl rfl ?_
        refine jx_callv (pc := 219) (o := 110) (rest := []) rfl ⟨by decide, by decide⟩ rfl jko_110 (Nat.le_of_ble_eq_true rfl) ?_
        obtain ⟨z24, hz_z24, K⟩ := Option.bind_eq_some_iff.mp K
        refine kM_takesSign  (by omega) hz_z24 ?_
        refine jx_ifeq (pc := 222) rfl (fun hc25 => ?_) (fun hc25 => ?_)
        · replace K := (if_pos hc25).symm.trans K
          refine jx_next (pc := 308) (pc' := 309) rfl rfl ?_
          refine jx_callv (pc := 309) (o := 110) (rest := []) rfl ⟨by decide, by decide⟩ rfl jko_110 (Nat.le_of_ble_eq_true rfl) ?_
          obtain ⟨z26, hz_z26, K⟩ := Option.bind_eq_some_iff.mp K
          refine kM_qBracket  (by omega) hz_z26 ?_
          refine jx_next (pc := 312) (pc' := 314) rfl rfl ?_
          refine jx_iceq (pc := 314) rfl (fun hc27 => ?_) (fun hc27 => ?_)
          · replace K := (if_pos hc27).symm.trans K
            refine jx_le (pl' := [some (.ref 110), none]) (jle_v (jle_n jle_nil)) ?_
            exact kM_qGoesOn_j326  hd K HQ
          · replace K := (if_neg hc27).symm.trans K
            refine jx_next (pc := 317) (pc' := 318) rfl rfl ?_
            refine jx_callv (pc := 318) (o := 110) (rest := []) rfl ⟨by decide, by decide⟩ rfl jko_110 (Nat.le_of_ble_eq_true rfl) ?_
            obtain ⟨z33, hz_z33, K⟩ := Option.bind_eq_some_iff.mp K
            refine kM_qBracket  (by omega) hz_z33 ?_
            refine jx_next (pc := 321) (pc' := 323) rfl rfl ?_
            refine jx_icne (pc := 323) rfl (fun hc34 => ?_) (fun hc34 => ?_)
            · replace K := (if_pos hc34).symm.trans K
              refine jx_le (pl' := [some (.ref 110), none]) (jle_v (jle_n jle_nil)) ?_
              exact kM_qGoesOn_j326  hd K HQ
            · replace K := (if_neg hc34).symm.trans K
              refine jx_next (pc := 362) (pc' := 363) rfl rfl ?_
              refine jx_callv (pc := 363) (o := 110) (rest := []) rfl ⟨by decide, by decide⟩ rfl jko_110 (Nat.le_of_ble_eq_true rfl) ?_
              obtain ⟨z35, hz_z35, K⟩ := Option.bind_eq_some_iff.mp K
              refine kM_qBracket  (by omega) hz_z35 ?_
              refine jx_next (pc := 366) (pc' := 367) rfl rfl ?_
              refine jx_iceq (pc := 367) rfl (fun hc36 => ?_) (fun hc36 => ?_)
              · replace K := (if_pos hc36).symm.trans K
                refine jx_next (pc := 386) (pc' := 387) rfl rfl ?_
                obtain rfl := Option.some.inj K
                exact jx_zret (pc := 387) rfl (Or.inl rfl) HQ
              · replace K := (if_neg hc36).symm.trans K
                refine jx_next (pc := 370) (pc' := 371) rfl rfl ?_
                refine jx_geti (pc := 371) rfl jko_110 ?_
                refine jx_ifne (pc := 374) rfl (fun hc37 => ?_) (fun hc37 => ?_)
                · replace K := (if_pos hc37).symm.trans K
                  refine jx_next (pc := 377) (pc' := 378) rfl rfl ?_
                  refine jx_next (pc := 378) (pc' := 379) rfl rfl ?_
                  refine jx_next (pc := 379) (pc' := 380) rfl rfl ?_
                  refine jx_geti (pc := 380) rfl jko_110 ?_
                  refine jx_callv (pc := 383) (o := 110) (rest := []) rfl ⟨by decide, by decide⟩ rfl jko_110 (Nat.le_of_ble_eq_true rfl) ?_
                  refine kM_fail  (by omega) rfl ?_
                  refine jx_next (pc := 386) (pc' := 387) rfl rfl ?_
                  obtain rfl := Option.some.inj K
                  exact jx_zret (pc := 387) rfl (Or.inl rfl) HQ
                · replace K := (if_neg hc37).symm.trans K
                  refine jx_next (pc := 386) (pc' := 387) rfl rfl ?_
                  obtain rfl := Option.some.inj K
                  exact jx_zret (pc := 387) rfl (Or.inl rfl) HQ
        · replace K := (if_neg hc25).symm.trans K
          refine jx_le (pl' := [some (.ref 110), none]) (jle_v (jle_n jle_nil)) ?_
          exact kM_qGoesOn_j225  hd K HQ
      · replace K := (if_neg hc23).symm.trans K
        refine jx_le (pl' := [some (.ref 110), none]) (jle_v (jle_n jle_nil)) ?_
        exact kM_qGoesOn_j225  hd K HQ
    · replace K := (if_neg hc21).symm.trans K
      refine jx_le (pl' := [some (.ref 110), none]) (jle_v (jle_n jle_nil)) ?_
      exact kM_qGoesOn_j140  hd K HQ
  · replace K := (if_neg hc19).symm.trans K
    refine jx_le (pl' := [some (.ref 110), none]) (jle_v (jle_n jle_nil)) ?_
    exact kM_qGoesOn_j140  hd K HQ
noncomputable def fM_qSums_l15_j49 (v1 : Int32) (s0 : Int32) (h : jH) : Option ((Int32 × jH) ⊕ (jH)) :=
  some (.inl (s0, h))
theorem kM_qSums_l15_j49 {X : jX} {dd : Nat} {p d : Nat} {q : Nat → Nat} {Q : Option Value → jS → Prop} {v1 : Int32} {s0 : Int32} {h : jH}  (hd : 6 ≤ (dd + 1)) {z : (Int32 × jH) ⊕ (jH)} (K : fM_qSums_l15_j49 v1 s0 h = some z) (HL : ∀ s : Int32 × jH, z = .inl s → jEx X (dd + 1) jc_212 15 [some (.ref 110), some (.int v1), some (.int s.1)] [] (176, jRf p d q, s.2) Q) (HE0 : ∀ x : jH, z = .inr x → jEx X (dd + 1) jc_212 53 [some (.ref 110), some (.int v1), none] [] (176, jRf p d q, x) Q) :
    jEx X (dd + 1) jc_212 49 [some (.ref 110), some (.int v1), none] [.int s0] (176, jRf p d q, h) Q := by
  unfold fM_qSums_l15_j49 at K
  refine jx_stin (pc := 49) (p2 := [some (.ref 110), some (.int v1), some (.int s0)]) rfl (jlt rfl) rfl ?_
  refine jx_next (pc := 50) (pc' := 15) rfl rfl ?_
  obtain rfl := Option.some.inj K
  refine jx_le (pl' := [some (.ref 110), some (.int v1), some (.int s0)]) (jle_v (jle_v (jle_v jle_nil))) ?_
  exact HL (s0, h) rfl
noncomputable def fM_qSums_l15_j48 (v1 : Int32) (h : jH) : Option ((Int32 × jH) ⊕ (jH)) :=
  fM_qSums_l15_j49  v1 0 h
theorem kM_qSums_l15_j48 {X : jX} {dd : Nat} {p d : Nat} {q : Nat → Nat} {Q : Option Value → jS → Prop} {v1 : Int32} {h : jH}  (hd : 6 ≤ (dd + 1)) {z : (Int32 × jH) ⊕ (jH)} (K : fM_qSums_l15_j48 v1 h = some z) (HL : ∀ s : Int32 × jH, z = .inl s → jEx X (dd + 1) jc_212 15 [some (.ref 110), some (.int v1), some (.int s.1)] [] (176, jRf p d q, s.2) Q) (HE0 : ∀ x : jH, z = .inr x → jEx X (dd + 1) jc_212 53 [some (.ref 110), some (.int v1), none] [] (176, jRf p d q, x) Q) :
    jEx X (dd + 1) jc_212 48 [some (.ref 110), some (.int v1), none] [] (176, jRf p d q, h) Q := by
  unfold fM_qSums_l15_j48 at K
  refine jx_next (pc := 48) (pc' := 49) rfl rfl ?_
  refine jx_le (pl' := [some (.ref 110), some (.int v1), none]) (jle_v (jle_v (jle_n jle_nil))) ?_
  exact kM_qSums_l15_j49  hd K HL HE0
noncomputable def fM_qSums_l15_b (v1 : Int32) (v2 : Int32) (h : jH) : Option ((Int32 × jH) ⊕ (jH)) :=
  (if v2 = 0 then
  some (.inr h)
  else
  (if (h.1 110 5) = 0 then
  (Option.bind (fM_qPartTold h) (fun (z3 : jH) =>
  (if (z3.1 110 5) = 0 then
  (Option.bind (fM_qGoesOn z3) (fun (z5 : Int32 × jH) =>
  (if z5.1 = 0 then
  fM_qSums_l15_j48  v1 z5.2
  else
  fM_qSums_l15_j49  v1 1 z5.2)))
  else
  fM_qSums_l15_j48  v1 z3)))
  else
  some (.inr h)))
noncomputable def fM_qSums_l15 (v1 : Int32) : (Int32 × jH) → Option ((Int32 × jH) ⊕ (jH)) :=
  fun (s : Int32 × jH) => fM_qSums_l15_b v1 s.1 s.2
theorem kM_qSums_l15_b {X : jX} {dd : Nat} {p d : Nat} {q : Nat → Nat} {Q : Option Value → jS → Prop} {v1 : Int32} {v2 : Int32} {h : jH}  (hd : 6 ≤ (dd + 1)) {z : (Int32 × jH) ⊕ (jH)} (K : fM_qSums_l15_b v1 v2 h = some z) (HL : ∀ s : Int32 × jH, z = .inl s → jEx X (dd + 1) jc_212 15 [some (.ref 110), some (.int v1), some (.int s.1)] [] (176, jRf p d q, s.2) Q) (HE0 : ∀ x : jH, z = .inr x → jEx X (dd + 1) jc_212 53 [some (.ref 110), some (.int v1), none] [] (176, jRf p d q, x) Q) :
    jEx X (dd + 1) jc_212 15 [some (.ref 110), some (.int v1), some (.int v2)] [] (176, jRf p d q, h) Q := by
  unfold fM_qSums_l15_b at K
  refine jx_next (pc := 15) (pc' := 16) rfl rfl ?_
  refine jx_ifeq (pc := 16) rfl (fun hc1 => ?_) (fun hc1 => ?_)
  · replace K := (if_pos hc1).symm.trans K
    obtain rfl := Option.some.inj K
    refine jx_le (pl' := [some (.ref 110), some (.int v1), none]) (jle_v (jle_v (jle_n jle_nil))) ?_
    exact HE0 _ rfl
  · replace K := (if_neg hc1).symm.trans K
    refine jx_next (pc := 19) (pc' := 20) rfl rfl ?_
    refine jx_geti (pc := 20) rfl jko_110 ?_
    refine jx_ifne (pc := 23) rfl (fun hc2 => ?_) (fun hc2 => ?_)
    · replace K := (if_pos hc2).symm.trans K
      refine jx_next (pc := 26) (pc' := 27) rfl rfl ?_
      refine jx_callv (pc := 27) (o := 110) (rest := []) rfl ⟨by decide, by decide⟩ rfl jko_110 (Nat.le_of_ble_eq_true rfl) ?_
      obtain ⟨z3, hz_z3, K⟩ := Option.bind_eq_some_iff.mp K
      refine kM_qPartTold  (by omega) hz_z3 ?_
      refine jx_next (pc := 30) (pc' := 31) rfl rfl ?_
      refine jx_geti (pc := 31) rfl jko_110 ?_
      refine jx_ifne (pc := 34) rfl (fun hc4 => ?_) (fun hc4 => ?_)
      · replace K := (if_pos hc4).symm.trans K
        refine jx_next (pc := 37) (pc' := 38) rfl rfl ?_
        refine jx_callv (pc := 38) (o := 110) (rest := []) rfl ⟨by decide, by decide⟩ rfl jko_110 (Nat.le_of_ble_eq_true rfl) ?_
        obtain ⟨z5, hz_z5, K⟩ := Option.bind_eq_some_iff.mp K
        refine kM_qGoesOn  (by omega) hz_z5 ?_
        refine jx_ifeq (pc := 41) rfl (fun hc6 => ?_) (fun hc6 => ?_)
        · replace K := (if_pos hc6).symm.trans K
          refine jx_le (pl' := [some (.ref 110), some (.int v1), none]) (jle_v (jle_v (jle_n jle_nil))) ?_
          exact kM_qSums_l15_j48  hd K HL HE0
        · replace K := (if_neg hc6).symm.trans K
          refine jx_next (pc := 44) (pc' := 45) rfl rfl ?_
          refine jx_next (pc := 45) (pc' := 49) rfl rfl ?_
          refine jx_le (pl' := [some (.ref 110), some (.int v1), none]) (jle_v (jle_v (jle_n jle_nil))) ?_
          exact kM_qSums_l15_j49  hd K HL HE0
      · replace K := (if_neg hc4).symm.trans K
        refine jx_le (pl' := [some (.ref 110), some (.int v1), none]) (jle_v (jle_v (jle_n jle_nil))) ?_
        exact kM_qSums_l15_j48  hd K HL HE0
    · replace K := (if_neg hc2).symm.trans K
      obtain rfl := Option.some.inj K
      refine jx_le (pl' := [some (.ref 110), some (.int v1), none]) (jle_v (jle_v (jle_n jle_nil))) ?_
      exact HE0 _ rfl
theorem kM_qSums_l15_w {X : jX} {dd : Nat} {p d : Nat} {q : Nat → Nat} {Q : Option Value → jS → Prop} {v1 : Int32}  (hd : 6 ≤ (dd + 1)) {s : Int32 × jH} {x : jH} (K : jlim (fM_qSums_l15 v1) s = some x) (HE : jEx X (dd + 1) jc_212 53 [some (.ref 110), some (.int v1), none] [] (176, jRf p d q, x) Q) :
    jEx X (dd + 1) jc_212 15 [some (.ref 110), some (.int v1), some (.int s.1)] [] (176, jRf p d q, s.2) Q := by
  refine jlim_ok (G := fun s : Int32 × jH => jEx X (dd + 1) jc_212 15 [some (.ref 110), some (.int v1), some (.int s.1)] [] (176, jRf p d q, s.2) Q) (GX := fun x : jH => jEx X (dd + 1) jc_212 53 [some (.ref 110), some (.int v1), none] [] (176, jRf p d q, x) Q) (fun s z hz HL HE => ?_) K HE
  exact kM_qSums_l15_b  hd hz HL HE
noncomputable def fM_qSums_l53_b (v1 : Int32) (h : jH) : Option ((jH) ⊕ (jH)) :=
  (if (h.1 110 5) = 0 then
  (if (h.1 110 84) < (h.1 110 82) then
  (Option.bind (fM_qDrops h) (fun (z10 : jH) =>
  some (.inl z10)))
  else
  some (.inr h))
  else
  some (.inr h))
noncomputable def fM_qSums_l53 (v1 : Int32) : jH → Option ((jH) ⊕ (jH)) :=
  fun (s : jH) => fM_qSums_l53_b v1 s
theorem kM_qSums_l53_b {X : jX} {dd : Nat} {p d : Nat} {q : Nat → Nat} {Q : Option Value → jS → Prop} {v1 : Int32} {h : jH}  (hd : 6 ≤ (dd + 1)) {z : (jH) ⊕ (jH)} (K : fM_qSums_l53_b v1 h = some z) (HL : ∀ s : jH, z = .inl s → jEx X (dd + 1) jc_212 53 [some (.ref 110), some (.int v1), none] [] (176, jRf p d q, s) Q) (HE0 : ∀ x : jH, z = .inr x → jEx X (dd + 1) jc_212 78 [some (.ref 110), some (.int v1), none] [] (176, jRf p d q, x) Q) :
    jEx X (dd + 1) jc_212 53 [some (.ref 110), some (.int v1), none] [] (176, jRf p d q, h) Q := by
  unfold fM_qSums_l53_b at K
  refine jx_next (pc := 53) (pc' := 54) rfl rfl ?_
  refine jx_geti (pc := 54) rfl jko_110 ?_
  refine jx_ifne (pc := 57) rfl (fun hc8 => ?_) (fun hc8 => ?_)
  · replace K := (if_pos hc8).symm.trans K
    refine jx_next (pc := 60) (pc' := 61) rfl rfl ?_
    refine jx_geti (pc := 61) rfl jko_110 ?_
    refine jx_next (pc := 64) (pc' := 65) rfl rfl ?_
    refine jx_geti (pc := 65) rfl jko_110 ?_
    refine jx_icle (pc := 68) rfl (fun hc9 => ?_) (fun hc9 => ?_)
    · replace K := (if_pos hc9).symm.trans K
      refine jx_next (pc := 71) (pc' := 72) rfl rfl ?_
      refine jx_callv (pc := 72) (o := 110) (rest := []) rfl ⟨by decide, by decide⟩ rfl jko_110 (Nat.le_of_ble_eq_true rfl) ?_
      obtain ⟨z10, hz_z10, K⟩ := Option.bind_eq_some_iff.mp K
      refine kM_qDrops  (by omega) hz_z10 ?_
      refine jx_next (pc := 75) (pc' := 53) rfl rfl ?_
      obtain rfl := Option.some.inj K
      refine jx_le (pl' := [some (.ref 110), some (.int v1), none]) (jle_v (jle_v (jle_n jle_nil))) ?_
      exact HL z10 rfl
    · replace K := (if_neg hc9).symm.trans K
      obtain rfl := Option.some.inj K
      refine jx_le (pl' := [some (.ref 110), some (.int v1), none]) (jle_v (jle_v (jle_n jle_nil))) ?_
      exact HE0 _ rfl
  · replace K := (if_neg hc8).symm.trans K
    obtain rfl := Option.some.inj K
    refine jx_le (pl' := [some (.ref 110), some (.int v1), none]) (jle_v (jle_v (jle_n jle_nil))) ?_
    exact HE0 _ rfl
theorem kM_qSums_l53_w {X : jX} {dd : Nat} {p d : Nat} {q : Nat → Nat} {Q : Option Value → jS → Prop} {v1 : Int32}  (hd : 6 ≤ (dd + 1)) {s : jH} {x : jH} (K : jlim (fM_qSums_l53 v1) s = some x) (HE : jEx X (dd + 1) jc_212 78 [some (.ref 110), some (.int v1), none] [] (176, jRf p d q, x) Q) :
    jEx X (dd + 1) jc_212 53 [some (.ref 110), some (.int v1), none] [] (176, jRf p d q, s) Q := by
  refine jlim_ok (G := fun s : jH => jEx X (dd + 1) jc_212 53 [some (.ref 110), some (.int v1), none] [] (176, jRf p d q, s) Q) (GX := fun x : jH => jEx X (dd + 1) jc_212 78 [some (.ref 110), some (.int v1), none] [] (176, jRf p d q, x) Q) (fun s z hz HL HE => ?_) K HE
  exact kM_qSums_l53_b  hd hz HL HE
/-- AndGuestModel.qSums()V -/
noncomputable def fM_qSums  (h : jH) : Option jH :=
  (Option.bind (jlim (fM_qSums_l15  (h.1 110 84)) (1, jhI h 110 84 (h.1 110 82))) (fun (x7 : jH) =>
  (Option.bind (jlim (fM_qSums_l53  (h.1 110 84)) x7) (fun (x11 : jH) =>
  some (jhI x11 110 84 (h.1 110 84))))))
theorem kM_qSums {X : jX} {dd : Nat} {p d : Nat} {q : Nat → Nat} {Q : Option Value → jS → Prop}  {h : jH}  (hd : 6 ≤ dd) {z : jH} (K : fM_qSums  h = some z) (HQ : Q none (176, jRf p d q, z)) :
    jCa X dd 212 [.ref 110] (176, jRf p d q, h) Q := by
  obtain ⟨dd, rfl⟩ : ∃ d9, dd = d9 + 1 := ⟨dd - 1, by omega⟩
  unfold fM_qSums at K
  refine jCa_of (es := jc_212) (pl := [some (.ref 110), none, none]) (M := jm_212) rfl rfl rfl rfl ?_
  refine jx_next (pc := 0) (pc' := 1) rfl rfl ?_
  refine jx_geti (pc := 1) rfl jko_110 ?_
  refine jx_stin (pc := 4) (p2 := [some (.ref 110), some (.int (h.1 110 84)), none]) rfl (jlt rfl) rfl ?_
  refine jx_next (pc := 5) (pc' := 6) rfl rfl ?_
  refine jx_next (pc := 6) (pc' := 7) rfl rfl ?_
  refine jx_geti (pc := 7) rfl jko_110 ?_
  refine jx_puti (pc := 10) rfl jko_110 ?_
  refine jx_next (pc := 13) (pc' := 14) rfl rfl ?_
  refine jx_stin (pc := 14) (p2 := [some (.ref 110), some (.int (h.1 110 84)), some (.int 1)]) rfl (jlt rfl) rfl ?_
  refine jx_le (pl' := [some (.ref 110), some (.int (h.1 110 84)), some (.int 1)]) (jle_v (jle_v (jle_v jle_nil))) ?_
  obtain ⟨x7, hz_x7, K⟩ := Option.bind_eq_some_iff.mp K
  refine kM_qSums_l15_w  hd hz_x7 ?_
  refine jx_le (pl' := [some (.ref 110), some (.int (h.1 110 84)), none]) (jle_v (jle_v (jle_n jle_nil))) ?_
  obtain ⟨x11, hz_x11, K⟩ := Option.bind_eq_some_iff.mp K
  refine kM_qSums_l53_w  hd hz_x11 ?_
  refine jx_next (pc := 78) (pc' := 79) rfl rfl ?_
  refine jx_next (pc := 79) (pc' := 80) rfl rfl ?_
  refine jx_puti (pc := 80) rfl jko_110 ?_
  obtain rfl := Option.some.inj K
  exact jx_ret (pc := 83) rfl rfl HQ
noncomputable def fM_lateTold_l80_b (v2 : Int32) (h : jH) : Option ((Int32 × jH) ⊕ (jH)) :=
  (if v2 < (h.1 110 80) then
  (if jin v2 1700 then
  (if jin (h.1 110 46) 3200 then
  some (.inl (v2 + 1, jhI (jhI h 147 (h.1 110 46).toNatClampNeg (h.1 173 v2.toNatClampNeg)) 110 46 (((jhI h 147 (h.1 110 46).toNatClampNeg (h.1 173 v2.toNatClampNeg)).1 110 46) + 1)))
  else none)
  else none)
  else
  some (.inr h))
noncomputable def fM_lateTold_l80  : (Int32 × jH) → Option ((Int32 × jH) ⊕ (jH)) :=
  fun (s : Int32 × jH) => fM_lateTold_l80_b s.1 s.2
theorem kM_lateTold_l80_b {X : jX} {dd : Nat} {p d : Nat} {q : Nat → Nat} {Q : Option Value → jS → Prop} {v2 : Int32} {h : jH}  (hd : 7 ≤ (dd + 1)) {z : (Int32 × jH) ⊕ (jH)} (K : fM_lateTold_l80_b v2 h = some z) (HL : ∀ s : Int32 × jH, z = .inl s → jEx X (dd + 1) jc_211 80 [some (.ref 110), none, some (.int s.1)] [] (176, jRf p d q, s.2) Q) (HE0 : ∀ x : jH, z = .inr x → jEx X (dd + 1) jc_211 119 [some (.ref 110), none, none] [] (176, jRf p d q, x) Q) :
    jEx X (dd + 1) jc_211 80 [some (.ref 110), none, some (.int v2)] [] (176, jRf p d q, h) Q := by
  unfold fM_lateTold_l80_b at K
  refine jx_next (pc := 80) (pc' := 81) rfl rfl ?_
  refine jx_next (pc := 81) (pc' := 82) rfl rfl ?_
  refine jx_geti (pc := 82) rfl jko_110 ?_
  refine jx_icge (pc := 85) rfl (fun hc8 => ?_) (fun hc8 => ?_)
  · replace K := (if_pos hc8).symm.trans K
    refine jx_next (pc := 88) (pc' := 89) rfl rfl ?_
    refine jx_getr2 (pc := 89) rfl jko_110 jr_12_45 ?_
    refine jx_next (pc := 92) (pc' := 93) rfl rfl ?_
    refine jx_geti (pc := 93) rfl jko_110 ?_
    refine jx_next (pc := 96) (pc' := 97) rfl rfl ?_
    refine jx_getr2 (pc := 97) rfl jko_110 jr_12_79 ?_
    refine jx_next (pc := 100) (pc' := 101) rfl rfl ?_
    obtain ⟨hg9, K⟩ := jguard K
    refine jx_iald2 (pc := 101) rfl jko_173 jno_173 hg9 ?_
    obtain ⟨hg10, K⟩ := jguard K
    refine jx_iast2 (pc := 102) rfl jko_147 jno_147 hg10 ?_
    refine jx_next (pc := 103) (pc' := 104) rfl rfl ?_
    refine jx_next (pc := 104) (pc' := 105) rfl rfl ?_
    refine jx_geti (pc := 105) rfl jko_110 ?_
    refine jx_next (pc := 108) (pc' := 109) rfl rfl ?_
    refine jx_next (pc := 109) (pc' := 110) rfl rfl ?_
    refine jx_puti (pc := 110) rfl jko_110 ?_
    refine jx_inc (pc := 113) (x := v2) (p2 := [some (.ref 110), none, some (.int (v2 + 1))]) rfl rfl (jlt rfl) rfl ?_
    refine jx_next (pc := 116) (pc' := 80) rfl rfl ?_
    obtain rfl := Option.some.inj K
    refine jx_le (pl' := [some (.ref 110), none, some (.int (v2 + 1))]) (jle_v (jle_n (jle_v jle_nil))) ?_
    exact HL (v2 + 1, jhI (jhI h 147 (h.1 110 46).toNatClampNeg (h.1 173 v2.toNatClampNeg)) 110 46 (((jhI h 147 (h.1 110 46).toNatClampNeg (h.1 173 v2.toNatClampNeg)).1 110 46) + 1)) rfl
  · replace K := (if_neg hc8).symm.trans K
    obtain rfl := Option.some.inj K
    refine jx_le (pl' := [some (.ref 110), none, none]) (jle_v (jle_n (jle_n jle_nil))) ?_
    exact HE0 _ rfl
theorem kM_lateTold_l80_w {X : jX} {dd : Nat} {p d : Nat} {q : Nat → Nat} {Q : Option Value → jS → Prop}   (hd : 7 ≤ (dd + 1)) {s : Int32 × jH} {x : jH} (K : jlim (fM_lateTold_l80 ) s = some x) (HE : jEx X (dd + 1) jc_211 119 [some (.ref 110), none, none] [] (176, jRf p d q, x) Q) :
    jEx X (dd + 1) jc_211 80 [some (.ref 110), none, some (.int s.1)] [] (176, jRf p d q, s.2) Q := by
  refine jlim_ok (G := fun s : Int32 × jH => jEx X (dd + 1) jc_211 80 [some (.ref 110), none, some (.int s.1)] [] (176, jRf p d q, s.2) Q) (GX := fun x : jH => jEx X (dd + 1) jc_211 119 [some (.ref 110), none, none] [] (176, jRf p d q, x) Q) (fun s z hz HL HE => ?_) K HE
  exact kM_lateTold_l80_b  hd hz HL HE
noncomputable def fM_lateTold_j23  (h : jH) : Option jH :=
  (if (h.1 110 5) = 0 then
  (Option.bind (fM_qSums (jhI (jhI (jhI (jhI (jhI h 110 49 1) 110 80 0) 110 82 0) 110 83 0) 110 84 0)) (fun (z5 : jH) =>
  (if (z5.1 110 5) = 0 then
  (if jin 0 2 then
  (Option.bind (jlim (fM_lateTold_l80 ) (0, jhI z5 145 (0 : Int32).toNatClampNeg (z5.1 110 46))) (fun (x11 : jH) =>
  (if jin 0 2 then
  some (jhI x11 146 (0 : Int32).toNatClampNeg (x11.1 110 46))
  else none)))
  else none)
  else
  some z5)))
  else
  some h)
theorem kM_lateTold_j23 {X : jX} {dd : Nat} {p d : Nat} {q : Nat → Nat} {Q : Option Value → jS → Prop}  {h : jH}  (hd : 7 ≤ (dd + 1)) {z : jH} (K : fM_lateTold_j23  h = some z) (HQ : Q none (176, jRf p d q, z)) :
    jEx X (dd + 1) jc_211 23 [some (.ref 110), none, none] [] (176, jRf p d q, h) Q := by
  unfold fM_lateTold_j23 at K
  refine jx_next (pc := 23) (pc' := 24) rfl rfl ?_
  refine jx_geti (pc := 24) rfl jko_110 ?_
  refine jx_ifeq (pc := 27) rfl (fun hc4 => ?_) (fun hc4 => ?_)
  · replace K := (if_pos hc4).symm.trans K
    refine jx_next (pc := 31) (pc' := 32) rfl rfl ?_
    refine jx_next (pc := 32) (pc' := 33) rfl rfl ?_
    refine jx_putz (pc := 33) rfl jko_110 (Or.inr rfl) ?_
    refine jx_next (pc := 36) (pc' := 37) rfl rfl ?_
    refine jx_next (pc := 37) (pc' := 38) rfl rfl ?_
    refine jx_puti (pc := 38) rfl jko_110 ?_
    refine jx_next (pc := 41) (pc' := 42) rfl rfl ?_
    refine jx_next (pc := 42) (pc' := 43) rfl rfl ?_
    refine jx_puti (pc := 43) rfl jko_110 ?_
    refine jx_next (pc := 46) (pc' := 47) rfl rfl ?_
    refine jx_next (pc := 47) (pc' := 48) rfl rfl ?_
    refine jx_puti (pc := 48) rfl jko_110 ?_
    refine jx_next (pc := 51) (pc' := 52) rfl rfl ?_
    refine jx_next (pc := 52) (pc' := 53) rfl rfl ?_
    refine jx_puti (pc := 53) rfl jko_110 ?_
    refine jx_next (pc := 56) (pc' := 57) rfl rfl ?_
    refine jx_callv (pc := 57) (o := 110) (rest := []) rfl ⟨by decide, by decide⟩ rfl jko_110 (Nat.le_of_ble_eq_true rfl) ?_
    obtain ⟨z5, hz_z5, K⟩ := Option.bind_eq_some_iff.mp K
    refine kM_qSums  (by omega) hz_z5 ?_
    refine jx_next (pc := 60) (pc' := 61) rfl rfl ?_
    refine jx_geti (pc := 61) rfl jko_110 ?_
    refine jx_ifeq (pc := 64) rfl (fun hc6 => ?_) (fun hc6 => ?_)
    · replace K := (if_pos hc6).symm.trans K
      refine jx_next (pc := 68) (pc' := 69) rfl rfl ?_
      refine jx_getr2 (pc := 69) rfl jko_110 jr_12_43 ?_
      refine jx_next (pc := 72) (pc' := 73) rfl rfl ?_
      refine jx_next (pc := 73) (pc' := 74) rfl rfl ?_
      refine jx_geti (pc := 74) rfl jko_110 ?_
      obtain ⟨hg7, K⟩ := jguard K
      refine jx_iast2 (pc := 77) rfl jko_145 jno_145 hg7 ?_
      refine jx_next (pc := 78) (pc' := 79) rfl rfl ?_
      refine jx_stin (pc := 79) (p2 := [some (.ref 110), none, some (.int 0)]) rfl (jlt rfl) rfl ?_
      refine jx_le (pl' := [some (.ref 110), none, some (.int 0)]) (jle_v (jle_n (jle_v jle_nil))) ?_
      obtain ⟨x11, hz_x11, K⟩ := Option.bind_eq_some_iff.mp K
      refine kM_lateTold_l80_w  hd hz_x11 ?_
      refine jx_next (pc := 119) (pc' := 120) rfl rfl ?_
      refine jx_getr2 (pc := 120) rfl jko_110 jr_12_44 ?_
      refine jx_next (pc := 123) (pc' := 124) rfl rfl ?_
      refine jx_next (pc := 124) (pc' := 125) rfl rfl ?_
      refine jx_geti (pc := 125) rfl jko_110 ?_
      obtain ⟨hg12, K⟩ := jguard K
      refine jx_iast2 (pc := 128) rfl jko_146 jno_146 hg12 ?_
      obtain rfl := Option.some.inj K
      exact jx_ret (pc := 129) rfl rfl HQ
    · replace K := (if_neg hc6).symm.trans K
      obtain rfl := Option.some.inj K
      exact jx_ret (pc := 67) rfl rfl HQ
  · replace K := (if_neg hc4).symm.trans K
    obtain rfl := Option.some.inj K
    exact jx_ret (pc := 30) rfl rfl HQ
/-- AndGuestModel.lateTold(I)V -/
noncomputable def fM_lateTold (v1 : Int32) (h : jH) : Option jH :=
  (if (h.1 110 5) = 0 then
  (if jin 0 2 then
  (if (h.1 145 (0 : Int32).toNatClampNeg) = (-1) then
  fM_lateTold_j23  h
  else
  fM_lateTold_j23  (fM_fail 5 v1 h))
  else none)
  else
  fM_lateTold_j23  h)
theorem kM_lateTold {X : jX} {dd : Nat} {p d : Nat} {q : Nat → Nat} {Q : Option Value → jS → Prop} {v1 : Int32} {h : jH}  (hd : 7 ≤ dd) {z : jH} (K : fM_lateTold v1 h = some z) (HQ : Q none (176, jRf p d q, z)) :
    jCa X dd 211 [.ref 110, .int v1] (176, jRf p d q, h) Q := by
  obtain ⟨dd, rfl⟩ : ∃ d9, dd = d9 + 1 := ⟨dd - 1, by omega⟩
  unfold fM_lateTold at K
  refine jCa_of (es := jc_211) (pl := [some (.ref 110), some (.int v1), none]) (M := jm_211) rfl rfl rfl rfl ?_
  refine jx_next (pc := 0) (pc' := 1) rfl rfl ?_
  refine jx_geti (pc := 1) rfl jko_110 ?_
  refine jx_ifne (pc := 4) rfl (fun hc1 => ?_) (fun hc1 => ?_)
  · replace K := (if_pos hc1).symm.trans K
    refine jx_next (pc := 7) (pc' := 8) rfl rfl ?_
    refine jx_getr2 (pc := 8) rfl jko_110 jr_12_43 ?_
    refine jx_next (pc := 11) (pc' := 12) rfl rfl ?_
    obtain ⟨hg2, K⟩ := jguard K
    refine jx_iald2 (pc := 12) rfl jko_145 jno_145 hg2 ?_
    refine jx_next (pc := 13) (pc' := 14) rfl rfl ?_
    refine jx_iceq (pc := 14) rfl (fun hc3 => ?_) (fun hc3 => ?_)
    · replace K := (if_pos hc3).symm.trans K
      refine jx_le (pl' := [some (.ref 110), none, none]) (jle_v (jle_n (jle_n jle_nil))) ?_
      exact kM_lateTold_j23  hd K HQ
    · replace K := (if_neg hc3).symm.trans K
      refine jx_next (pc := 17) (pc' := 18) rfl rfl ?_
      refine jx_next (pc := 18) (pc' := 19) rfl rfl ?_
      refine jx_next (pc := 19) (pc' := 20) rfl rfl ?_
      refine jx_callv (pc := 20) (o := 110) (rest := []) rfl ⟨by decide, by decide⟩ rfl jko_110 (Nat.le_of_ble_eq_true rfl) ?_
      refine kM_fail  (by omega) rfl ?_
      refine jx_le (pl' := [some (.ref 110), none, none]) (jle_v (jle_n (jle_n jle_nil))) ?_
      exact kM_lateTold_j23  hd K HQ
  · replace K := (if_neg hc1).symm.trans K
    refine jx_le (pl' := [some (.ref 110), none, none]) (jle_v (jle_n (jle_n jle_nil))) ?_
    exact kM_lateTold_j23  hd K HQ
noncomputable def fM_statementTold_j172  (h : jH) : Option jH :=
  (Option.bind (fM_asksSign 59 h) (fun (z18 : jH) =>
  some (jhI z18 110 47 ((z18.1 110 47) + 1))))
theorem kM_statementTold_j172 {X : jX} {dd : Nat} {p d : Nat} {q : Nat → Nat} {Q : Option Value → jS → Prop}  {h : jH}  (hd : 8 ≤ (dd + 1)) {z : jH} (K : fM_statementTold_j172  h = some z) (HQ : Q none (176, jRf p d q, z)) :
    jEx X (dd + 1) jc_202 172 [some (.ref 110), none] [] (176, jRf p d q, h) Q := by
  unfold fM_statementTold_j172 at K
  refine jx_next (pc := 172) (pc' := 173) rfl rfl ?_
  refine jx_next (pc := 173) (pc' := 175) rfl rfl ?_
  refine jx_callv (pc := 175) (o := 110) (rest := []) rfl ⟨by decide, by decide⟩ rfl jko_110 (Nat.le_of_ble_eq_true rfl) ?_
  obtain ⟨z18, hz_z18, K⟩ := Option.bind_eq_some_iff.mp K
  refine kM_asksSign  (by omega) hz_z18 ?_
  refine jx_next (pc := 178) (pc' := 179) rfl rfl ?_
  refine jx_next (pc := 179) (pc' := 180) rfl rfl ?_
  refine jx_geti (pc := 180) rfl jko_110 ?_
  refine jx_next (pc := 183) (pc' := 184) rfl rfl ?_
  refine jx_next (pc := 184) (pc' := 185) rfl rfl ?_
  refine jx_puti (pc := 185) rfl jko_110 ?_
  obtain rfl := Option.some.inj K
  exact jx_ret (pc := 188) rfl rfl HQ
/-- AndGuestModel.statementTold()V -/
noncomputable def fM_statementTold  (h : jH) : Option jH :=
  (if (h.1 110 47) = 60 then
  some (fM_fail 5 (h.1 110 2) h)
  else
  (Option.bind (fM_takes 117 h) (fun (z3 : Int32 × jH) =>
  (if z3.1 = 0 then
  (Option.bind (fM_takes 122 z3.2) (fun (z5 : Int32 × jH) =>
  (if z5.1 = 0 then
  (Option.bind (fM_takes 123 z5.2) (fun (z7 : Int32 × jH) =>
  (if z7.1 = 0 then
  (Option.bind (fM_takes 124 z7.2) (fun (z9 : Int32 × jH) =>
  (if z9.1 = 0 then
  (Option.bind (fM_takes 125 z9.2) (fun (z11 : Int32 × jH) =>
  (if z11.1 = 0 then
  (Option.bind (fM_takes 126 z11.2) (fun (z13 : Int32 × jH) =>
  (if z13.1 = 0 then
  (Option.bind (fM_asks 127 z13.2) (fun (z15 : jH) =>
  (Option.bind (fM_number 0 9 z15) (fun (z16 : Int32 × jH) =>
  (if jin 2 6 then
  fM_statementTold_j172  (jhI z16.2 144 (2 : Int32).toNatClampNeg z16.1)
  else none)))))
  else
  (Option.bind (fM_number 0 100 z13.2) (fun (z19 : Int32 × jH) =>
  (if jin 1 6 then
  fM_statementTold_j172  (jhI z19.2 144 (1 : Int32).toNatClampNeg z19.1)
  else none))))))
  else
  (Option.bind (fM_number 0 10 z11.2) (fun (z21 : Int32 × jH) =>
  (if jin 0 6 then
  fM_statementTold_j172  (jhI z21.2 144 (0 : Int32).toNatClampNeg z21.1)
  else none))))))
  else
  (Option.bind (fM_lateTold (h.1 110 2) z9.2) (fun (z23 : jH) =>
  fM_statementTold_j172  z23)))))
  else
  (Option.bind (fM_hearTold (h.1 110 2) z7.2) (fun (z24 : jH) =>
  fM_statementTold_j172  z24)))))
  else
  (Option.bind (fM_pullTold (h.1 110 2) z5.2) (fun (z25 : jH) =>
  fM_statementTold_j172  z25)))))
  else
  (Option.bind (fM_guestTold (h.1 110 2) z3.2) (fun (z26 : jH) =>
  fM_statementTold_j172  z26))))))
theorem kM_statementTold {X : jX} {dd : Nat} {p d : Nat} {q : Nat → Nat} {Q : Option Value → jS → Prop}  {h : jH}  (hd : 8 ≤ dd) {z : jH} (K : fM_statementTold  h = some z) (HQ : Q none (176, jRf p d q, z)) :
    jCa X dd 202 [.ref 110] (176, jRf p d q, h) Q := by
  obtain ⟨dd, rfl⟩ : ∃ d9, dd = d9 + 1 := ⟨dd - 1, by omega⟩
  unfold fM_statementTold at K
  refine jCa_of (es := jc_202) (pl := [some (.ref 110), none]) (M := jm_202) rfl rfl rfl rfl ?_
  refine jx_next (pc := 0) (pc' := 1) rfl rfl ?_
  refine jx_geti (pc := 1) rfl jko_110 ?_
  refine jx_stin (pc := 4) (p2 := [some (.ref 110), some (.int (h.1 110 2))]) rfl (jlt rfl) rfl ?_
  refine jx_next (pc := 5) (pc' := 6) rfl rfl ?_
  refine jx_geti (pc := 6) rfl jko_110 ?_
  refine jx_next (pc := 9) (pc' := 11) rfl rfl ?_
  refine jx_icne (pc := 11) rfl (fun hc1 => ?_) (fun hc1 => ?_)
  · replace K := (if_pos hc1).symm.trans K
    refine jx_next (pc := 14) (pc' := 15) rfl rfl ?_
    refine jx_next (pc := 15) (pc' := 16) rfl rfl ?_
    refine jx_next (pc := 16) (pc' := 17) rfl rfl ?_
    refine jx_callv (pc := 17) (o := 110) (rest := []) rfl ⟨by decide, by decide⟩ rfl jko_110 (Nat.le_of_ble_eq_true rfl) ?_
    refine kM_fail  (by omega) rfl ?_
    obtain rfl := Option.some.inj K
    exact jx_ret (pc := 20) rfl rfl HQ
  · replace K := (if_neg hc1).symm.trans K
    refine jx_next (pc := 21) (pc' := 22) rfl rfl ?_
    refine jx_next (pc := 22) (pc' := 23) rfl rfl ?_
    refine jx_getr2 (pc := 23) rfl jko_110 jr_12_14 ?_
    refine jx_callv (pc := 26) (o := 110) (rest := []) rfl ⟨by decide, by decide⟩ rfl jko_110 (Nat.le_of_ble_eq_true rfl) ?_
    obtain ⟨z3, hz_z3, K⟩ := Option.bind_eq_some_iff.mp K
    refine kM_takes  jko_117 (by omega) hz_z3 ?_
    refine jx_ifeq (pc := 29) rfl (fun hc4 => ?_) (fun hc4 => ?_)
    · replace K := (if_pos hc4).symm.trans K
      refine jx_next (pc := 40) (pc' := 41) rfl rfl ?_
      refine jx_next (pc := 41) (pc' := 42) rfl rfl ?_
      refine jx_getr2 (pc := 42) rfl jko_110 jr_12_19 ?_
      refine jx_callv (pc := 45) (o := 110) (rest := []) rfl ⟨by decide, by decide⟩ rfl jko_110 (Nat.le_of_ble_eq_true rfl) ?_
      obtain ⟨z5, hz_z5, K⟩ := Option.bind_eq_some_iff.mp K
      refine kM_takes  jko_122 (by omega) hz_z5 ?_
      refine jx_ifeq (pc := 48) rfl (fun hc6 => ?_) (fun hc6 => ?_)
      · replace K := (if_pos hc6).symm.trans K
        refine jx_next (pc := 59) (pc' := 60) rfl rfl ?_
        refine jx_next (pc := 60) (pc' := 61) rfl rfl ?_
        refine jx_getr2 (pc := 61) rfl jko_110 jr_12_20 ?_
        refine jx_callv (pc := 64) (o := 110) (rest := []) rfl ⟨by decide, by decide⟩ rfl jko_110 (Nat.le_of_ble_eq_true rfl) ?_
        obtain ⟨z7, hz_z7, K⟩ := Option.bind_eq_some_iff.mp K
        refine kM_takes  jko_123 (by omega) hz_z7 ?_
        refine jx_ifeq (pc := 67) rfl (fun hc8 => ?_) (fun hc8 => ?_)
        · replace K := (if_pos hc8).symm.trans K
          refine jx_next (pc := 78) (pc' := 79) rfl rfl ?_
          refine jx_next (pc := 79) (pc' := 80) rfl rfl ?_
          refine jx_getr2 (pc := 80) rfl jko_110 jr_12_21 ?_
          refine jx_callv (pc := 83) (o := 110) (rest := []) rfl ⟨by decide, by decide⟩ rfl jko_110 (Nat.le_of_ble_eq_true rfl) ?_
          obtain ⟨z9, hz_z9, K⟩ := Option.bind_eq_some_iff.mp K
          refine kM_takes  jko_124 (by omega) hz_z9 ?_
          refine jx_ifeq (pc := 86) rfl (fun hc10 => ?_) (fun hc10 => ?_)
          · replace K := (if_pos hc10).symm.trans K
            refine jx_next (pc := 97) (pc' := 98) rfl rfl ?_
            refine jx_next (pc := 98) (pc' := 99) rfl rfl ?_
            refine jx_getr2 (pc := 99) rfl jko_110 jr_12_22 ?_
            refine jx_callv (pc := 102) (o := 110) (rest := []) rfl ⟨by decide, by decide⟩ rfl jko_110 (Nat.le_of_ble_eq_true rfl) ?_
            obtain ⟨z11, hz_z11, K⟩ := Option.bind_eq_some_iff.mp K
            refine kM_takes  jko_125 (by omega) hz_z11 ?_
            refine jx_ifeq (pc := 105) rfl (fun hc12 => ?_) (fun hc12 => ?_)
            · replace K := (if_pos hc12).symm.trans K
              refine jx_next (pc := 124) (pc' := 125) rfl rfl ?_
              refine jx_next (pc := 125) (pc' := 126) rfl rfl ?_
              refine jx_getr2 (pc := 126) rfl jko_110 jr_12_23 ?_
              refine jx_callv (pc := 129) (o := 110) (rest := []) rfl ⟨by decide, by decide⟩ rfl jko_110 (Nat.le_of_ble_eq_true rfl) ?_
              obtain ⟨z13, hz_z13, K⟩ := Option.bind_eq_some_iff.mp K
              refine kM_takes  jko_126 (by omega) hz_z13 ?_
              refine jx_ifeq (pc := 132) rfl (fun hc14 => ?_) (fun hc14 => ?_)
              · replace K := (if_pos hc14).symm.trans K
                refine jx_next (pc := 151) (pc' := 152) rfl rfl ?_
                refine jx_next (pc := 152) (pc' := 153) rfl rfl ?_
                refine jx_getr2 (pc := 153) rfl jko_110 jr_12_24 ?_
                refine jx_callv (pc := 156) (o := 110) (rest := []) rfl ⟨by decide, by decide⟩ rfl jko_110 (Nat.le_of_ble_eq_true rfl) ?_
                obtain ⟨z15, hz_z15, K⟩ := Option.bind_eq_some_iff.mp K
                refine kM_asks  jko_127 (by omega) hz_z15 ?_
                refine jx_next (pc := 159) (pc' := 160) rfl rfl ?_
                refine jx_getr2 (pc := 160) rfl jko_110 jr_12_42 ?_
                refine jx_next (pc := 163) (pc' := 164) rfl rfl ?_
                refine jx_next (pc := 164) (pc' := 165) rfl rfl ?_
                refine jx_next (pc := 165) (pc' := 166) rfl rfl ?_
                refine jx_next (pc := 166) (pc' := 168) rfl rfl ?_
                refine jx_callv (pc := 168) (o := 110) (rest := [.int 2, .ref 144]) rfl ⟨by decide, by decide⟩ rfl jko_110 (Nat.le_of_ble_eq_true rfl) ?_
                obtain ⟨z16, hz_z16, K⟩ := Option.bind_eq_some_iff.mp K
                refine kM_number  (by omega) hz_z16 ?_
                obtain ⟨hg17, K⟩ := jguard K
                refine jx_iast2 (pc := 171) rfl jko_144 jno_144 hg17 ?_
                refine jx_le (pl' := [some (.ref 110), none]) (jle_v (jle_n jle_nil)) ?_
                exact kM_statementTold_j172  hd K HQ
              · replace K := (if_neg hc14).symm.trans K
                refine jx_next (pc := 135) (pc' := 136) rfl rfl ?_
                refine jx_getr2 (pc := 136) rfl jko_110 jr_12_42 ?_
                refine jx_next (pc := 139) (pc' := 140) rfl rfl ?_
                refine jx_next (pc := 140) (pc' := 141) rfl rfl ?_
                refine jx_next (pc := 141) (pc' := 142) rfl rfl ?_
                refine jx_next (pc := 142) (pc' := 144) rfl rfl ?_
                refine jx_callv (pc := 144) (o := 110) (rest := [.int 1, .ref 144]) rfl ⟨by decide, by decide⟩ rfl jko_110 (Nat.le_of_ble_eq_true rfl) ?_
                obtain ⟨z19, hz_z19, K⟩ := Option.bind_eq_some_iff.mp K
                refine kM_number  (by omega) hz_z19 ?_
                obtain ⟨hg20, K⟩ := jguard K
                refine jx_iast2 (pc := 147) rfl jko_144 jno_144 hg20 ?_
                refine jx_next (pc := 148) (pc' := 172) rfl rfl ?_
                refine jx_le (pl' := [some (.ref 110), none]) (jle_v (jle_n jle_nil)) ?_
                exact kM_statementTold_j172  hd K HQ
            · replace K := (if_neg hc12).symm.trans K
              refine jx_next (pc := 108) (pc' := 109) rfl rfl ?_
              refine jx_getr2 (pc := 109) rfl jko_110 jr_12_42 ?_
              refine jx_next (pc := 112) (pc' := 113) rfl rfl ?_
              refine jx_next (pc := 113) (pc' := 114) rfl rfl ?_
              refine jx_next (pc := 114) (pc' := 115) rfl rfl ?_
              refine jx_next (pc := 115) (pc' := 117) rfl rfl ?_
              refine jx_callv (pc := 117) (o := 110) (rest := [.int 0, .ref 144]) rfl ⟨by decide, by decide⟩ rfl jko_110 (Nat.le_of_ble_eq_true rfl) ?_
              obtain ⟨z21, hz_z21, K⟩ := Option.bind_eq_some_iff.mp K
              refine kM_number  (by omega) hz_z21 ?_
              obtain ⟨hg22, K⟩ := jguard K
              refine jx_iast2 (pc := 120) rfl jko_144 jno_144 hg22 ?_
              refine jx_next (pc := 121) (pc' := 172) rfl rfl ?_
              refine jx_le (pl' := [some (.ref 110), none]) (jle_v (jle_n jle_nil)) ?_
              exact kM_statementTold_j172  hd K HQ
          · replace K := (if_neg hc10).symm.trans K
            refine jx_next (pc := 89) (pc' := 90) rfl rfl ?_
            refine jx_next (pc := 90) (pc' := 91) rfl rfl ?_
            refine jx_callv (pc := 91) (o := 110) (rest := []) rfl ⟨by decide, by decide⟩ rfl jko_110 (Nat.le_of_ble_eq_true rfl) ?_
            obtain ⟨z23, hz_z23, K⟩ := Option.bind_eq_some_iff.mp K
            refine kM_lateTold  (by omega) hz_z23 ?_
            refine jx_next (pc := 94) (pc' := 172) rfl rfl ?_
            refine jx_le (pl' := [some (.ref 110), none]) (jle_v (jle_n jle_nil)) ?_
            exact kM_statementTold_j172  hd K HQ
        · replace K := (if_neg hc8).symm.trans K
          refine jx_next (pc := 70) (pc' := 71) rfl rfl ?_
          refine jx_next (pc := 71) (pc' := 72) rfl rfl ?_
          refine jx_callv (pc := 72) (o := 110) (rest := []) rfl ⟨by decide, by decide⟩ rfl jko_110 (Nat.le_of_ble_eq_true rfl) ?_
          obtain ⟨z24, hz_z24, K⟩ := Option.bind_eq_some_iff.mp K
          refine kM_hearTold  (by omega) hz_z24 ?_
          refine jx_next (pc := 75) (pc' := 172) rfl rfl ?_
          refine jx_le (pl' := [some (.ref 110), none]) (jle_v (jle_n jle_nil)) ?_
          exact kM_statementTold_j172  hd K HQ
      · replace K := (if_neg hc6).symm.trans K
        refine jx_next (pc := 51) (pc' := 52) rfl rfl ?_
        refine jx_next (pc := 52) (pc' := 53) rfl rfl ?_
        refine jx_callv (pc := 53) (o := 110) (rest := []) rfl ⟨by decide, by decide⟩ rfl jko_110 (Nat.le_of_ble_eq_true rfl) ?_
        obtain ⟨z25, hz_z25, K⟩ := Option.bind_eq_some_iff.mp K
        refine kM_pullTold  (by omega) hz_z25 ?_
        refine jx_next (pc := 56) (pc' := 172) rfl rfl ?_
        refine jx_le (pl' := [some (.ref 110), none]) (jle_v (jle_n jle_nil)) ?_
        exact kM_statementTold_j172  hd K HQ
    · replace K := (if_neg hc4).symm.trans K
      refine jx_next (pc := 32) (pc' := 33) rfl rfl ?_
      refine jx_next (pc := 33) (pc' := 34) rfl rfl ?_
      refine jx_callv (pc := 34) (o := 110) (rest := []) rfl ⟨by decide, by decide⟩ rfl jko_110 (Nat.le_of_ble_eq_true rfl) ?_
      obtain ⟨z26, hz_z26, K⟩ := Option.bind_eq_some_iff.mp K
      refine kM_guestTold  (by omega) hz_z26 ?_
      refine jx_next (pc := 37) (pc' := 172) rfl rfl ?_
      refine jx_le (pl' := [some (.ref 110), none]) (jle_v (jle_n jle_nil)) ?_
      exact kM_statementTold_j172  hd K HQ
noncomputable def fM_stands_l7_b (v1 : Int32) (h : jH) : Option ((Int32 × jH) ⊕ (jH)) :=
  (if v1 < 3 then
  (if jin v1 6 then
  (if jin (3 + v1) 6 then
  (if jin v1 6 then
  (if jin (3 + v1) 6 then
  some (.inl (v1 + 1, jhI (jhI h 138 (3 + v1).toNatClampNeg (h.1 138 v1.toNatClampNeg)) 144 (3 + v1).toNatClampNeg ((jhI h 138 (3 + v1).toNatClampNeg (h.1 138 v1.toNatClampNeg)).1 144 v1.toNatClampNeg)))
  else none)
  else none)
  else none)
  else none)
  else
  some (.inr h))
noncomputable def fM_stands_l7  : (Int32 × jH) → Option ((Int32 × jH) ⊕ (jH)) :=
  fun (s : Int32 × jH) => fM_stands_l7_b s.1 s.2
theorem kM_stands_l7_b {X : jX} {dd : Nat} {p d : Nat} {q : Nat → Nat} {Q : Option Value → jS → Prop} {v1 : Int32} {h : jH}  (hd : 0 ≤ dd) {z : (Int32 × jH) ⊕ (jH)} (K : fM_stands_l7_b v1 h = some z) (HL : ∀ s : Int32 × jH, z = .inl s → jEx X dd jc_227 7 [some (.ref 110), some (.int s.1)] [] (176, jRf p d q, s.2) Q) (HE0 : ∀ x : jH, z = .inr x → jEx X dd jc_227 46 [some (.ref 110), none] [] (176, jRf p d q, x) Q) :
    jEx X dd jc_227 7 [some (.ref 110), some (.int v1)] [] (176, jRf p d q, h) Q := by
  unfold fM_stands_l7_b at K
  refine jx_next (pc := 7) (pc' := 8) rfl rfl ?_
  refine jx_next (pc := 8) (pc' := 9) rfl rfl ?_
  refine jx_icge (pc := 9) rfl (fun hc1 => ?_) (fun hc1 => ?_)
  · replace K := (if_pos hc1).symm.trans K
    refine jx_next (pc := 12) (pc' := 13) rfl rfl ?_
    refine jx_getr2 (pc := 13) rfl jko_110 jr_12_36 ?_
    refine jx_next (pc := 16) (pc' := 17) rfl rfl ?_
    refine jx_next (pc := 17) (pc' := 18) rfl rfl ?_
    refine jx_next (pc := 18) (pc' := 19) rfl rfl ?_
    refine jx_next (pc := 19) (pc' := 20) rfl rfl ?_
    refine jx_getr2 (pc := 20) rfl jko_110 jr_12_36 ?_
    refine jx_next (pc := 23) (pc' := 24) rfl rfl ?_
    obtain ⟨hg2, K⟩ := jguard K
    refine jx_iald2 (pc := 24) rfl jko_138 jno_138 hg2 ?_
    obtain ⟨hg3, K⟩ := jguard K
    refine jx_iast2 (pc := 25) rfl jko_138 jno_138 hg3 ?_
    refine jx_next (pc := 26) (pc' := 27) rfl rfl ?_
    refine jx_getr2 (pc := 27) rfl jko_110 jr_12_42 ?_
    refine jx_next (pc := 30) (pc' := 31) rfl rfl ?_
    refine jx_next (pc := 31) (pc' := 32) rfl rfl ?_
    refine jx_next (pc := 32) (pc' := 33) rfl rfl ?_
    refine jx_next (pc := 33) (pc' := 34) rfl rfl ?_
    refine jx_getr2 (pc := 34) rfl jko_110 jr_12_42 ?_
    refine jx_next (pc := 37) (pc' := 38) rfl rfl ?_
    obtain ⟨hg4, K⟩ := jguard K
    refine jx_iald2 (pc := 38) rfl jko_144 jno_144 hg4 ?_
    obtain ⟨hg5, K⟩ := jguard K
    refine jx_iast2 (pc := 39) rfl jko_144 jno_144 hg5 ?_
    refine jx_inc (pc := 40) (x := v1) (p2 := [some (.ref 110), some (.int (v1 + 1))]) rfl rfl (jlt rfl) rfl ?_
    refine jx_next (pc := 43) (pc' := 7) rfl rfl ?_
    obtain rfl := Option.some.inj K
    refine jx_le (pl' := [some (.ref 110), some (.int (v1 + 1))]) (jle_v (jle_v jle_nil)) ?_
    exact HL (v1 + 1, jhI (jhI h 138 (3 + v1).toNatClampNeg (h.1 138 v1.toNatClampNeg)) 144 (3 + v1).toNatClampNeg ((jhI h 138 (3 + v1).toNatClampNeg (h.1 138 v1.toNatClampNeg)).1 144 v1.toNatClampNeg)) rfl
  · replace K := (if_neg hc1).symm.trans K
    obtain rfl := Option.some.inj K
    refine jx_le (pl' := [some (.ref 110), none]) (jle_v (jle_n jle_nil)) ?_
    exact HE0 _ rfl
theorem kM_stands_l7_w {X : jX} {dd : Nat} {p d : Nat} {q : Nat → Nat} {Q : Option Value → jS → Prop}   (hd : 0 ≤ dd) {s : Int32 × jH} {x : jH} (K : jlim (fM_stands_l7 ) s = some x) (HE : jEx X dd jc_227 46 [some (.ref 110), none] [] (176, jRf p d q, x) Q) :
    jEx X dd jc_227 7 [some (.ref 110), some (.int s.1)] [] (176, jRf p d q, s.2) Q := by
  refine jlim_ok (G := fun s : Int32 × jH => jEx X dd jc_227 7 [some (.ref 110), some (.int s.1)] [] (176, jRf p d q, s.2) Q) (GX := fun x : jH => jEx X dd jc_227 46 [some (.ref 110), none] [] (176, jRf p d q, x) Q) (fun s z hz HL HE => ?_) K HE
  exact kM_stands_l7_b  hd hz HL HE
noncomputable def fM_stands_l48_b (v1 : Int32) (h : jH) : Option ((Int32 × jH) ⊕ (jH)) :=
  (if v1 < 8 then
  (if jin v1 16 then
  (if jin (8 + v1) 16 then
  (if jin v1 16 then
  (if jin (8 + v1) 16 then
  (if jin v1 16 then
  (if jin (8 + v1) 16 then
  some (.inl (v1 + 1, jhI (jhI (jhL h 139 (8 + v1).toNatClampNeg (h.2 139 v1.toNatClampNeg)) 142 (8 + v1).toNatClampNeg ((jhL h 139 (8 + v1).toNatClampNeg (h.2 139 v1.toNatClampNeg)).1 142 v1.toNatClampNeg)) 143 (8 + v1).toNatClampNeg ((jhI (jhL h 139 (8 + v1).toNatClampNeg (h.2 139 v1.toNatClampNeg)) 142 (8 + v1).toNatClampNeg ((jhL h 139 (8 + v1).toNatClampNeg (h.2 139 v1.toNatClampNeg)).1 142 v1.toNatClampNeg)).1 143 v1.toNatClampNeg)))
  else none)
  else none)
  else none)
  else none)
  else none)
  else none)
  else
  some (.inr h))
noncomputable def fM_stands_l48  : (Int32 × jH) → Option ((Int32 × jH) ⊕ (jH)) :=
  fun (s : Int32 × jH) => fM_stands_l48_b s.1 s.2
theorem kM_stands_l48_b {X : jX} {dd : Nat} {p d : Nat} {q : Nat → Nat} {Q : Option Value → jS → Prop} {v1 : Int32} {h : jH}  (hd : 0 ≤ dd) {z : (Int32 × jH) ⊕ (jH)} (K : fM_stands_l48_b v1 h = some z) (HL : ∀ s : Int32 × jH, z = .inl s → jEx X dd jc_227 48 [some (.ref 110), some (.int s.1)] [] (176, jRf p d q, s.2) Q) (HE0 : ∀ x : jH, z = .inr x → jEx X dd jc_227 105 [some (.ref 110), none] [] (176, jRf p d q, x) Q) :
    jEx X dd jc_227 48 [some (.ref 110), some (.int v1)] [] (176, jRf p d q, h) Q := by
  unfold fM_stands_l48_b at K
  refine jx_next (pc := 48) (pc' := 49) rfl rfl ?_
  refine jx_next (pc := 49) (pc' := 51) rfl rfl ?_
  refine jx_icge (pc := 51) rfl (fun hc7 => ?_) (fun hc7 => ?_)
  · replace K := (if_pos hc7).symm.trans K
    refine jx_next (pc := 54) (pc' := 55) rfl rfl ?_
    refine jx_getr2 (pc := 55) rfl jko_110 jr_12_37 ?_
    refine jx_next (pc := 58) (pc' := 60) rfl rfl ?_
    refine jx_next (pc := 60) (pc' := 61) rfl rfl ?_
    refine jx_next (pc := 61) (pc' := 62) rfl rfl ?_
    refine jx_next (pc := 62) (pc' := 63) rfl rfl ?_
    refine jx_getr2 (pc := 63) rfl jko_110 jr_12_37 ?_
    refine jx_next (pc := 66) (pc' := 67) rfl rfl ?_
    obtain ⟨hg8, K⟩ := jguard K
    refine jx_lald2 (pc := 67) rfl jko_139 jno_139 hg8 ?_
    obtain ⟨hg9, K⟩ := jguard K
    refine jx_last2 (pc := 68) rfl jko_139 jno_139 hg9 ?_
    refine jx_next (pc := 69) (pc' := 70) rfl rfl ?_
    refine jx_getr2 (pc := 70) rfl jko_110 jr_12_40 ?_
    refine jx_next (pc := 73) (pc' := 75) rfl rfl ?_
    refine jx_next (pc := 75) (pc' := 76) rfl rfl ?_
    refine jx_next (pc := 76) (pc' := 77) rfl rfl ?_
    refine jx_next (pc := 77) (pc' := 78) rfl rfl ?_
    refine jx_getr2 (pc := 78) rfl jko_110 jr_12_40 ?_
    refine jx_next (pc := 81) (pc' := 82) rfl rfl ?_
    obtain ⟨hg10, K⟩ := jguard K
    refine jx_iald2 (pc := 82) rfl jko_142 jno_142 hg10 ?_
    obtain ⟨hg11, K⟩ := jguard K
    refine jx_iast2 (pc := 83) rfl jko_142 jno_142 hg11 ?_
    refine jx_next (pc := 84) (pc' := 85) rfl rfl ?_
    refine jx_getr2 (pc := 85) rfl jko_110 jr_12_41 ?_
    refine jx_next (pc := 88) (pc' := 90) rfl rfl ?_
    refine jx_next (pc := 90) (pc' := 91) rfl rfl ?_
    refine jx_next (pc := 91) (pc' := 92) rfl rfl ?_
    refine jx_next (pc := 92) (pc' := 93) rfl rfl ?_
    refine jx_getr2 (pc := 93) rfl jko_110 jr_12_41 ?_
    refine jx_next (pc := 96) (pc' := 97) rfl rfl ?_
    obtain ⟨hg12, K⟩ := jguard K
    refine jx_iald2 (pc := 97) rfl jko_143 jno_143 hg12 ?_
    obtain ⟨hg13, K⟩ := jguard K
    refine jx_iast2 (pc := 98) rfl jko_143 jno_143 hg13 ?_
    refine jx_inc (pc := 99) (x := v1) (p2 := [some (.ref 110), some (.int (v1 + 1))]) rfl rfl (jlt rfl) rfl ?_
    refine jx_next (pc := 102) (pc' := 48) rfl rfl ?_
    obtain rfl := Option.some.inj K
    refine jx_le (pl' := [some (.ref 110), some (.int (v1 + 1))]) (jle_v (jle_v jle_nil)) ?_
    exact HL (v1 + 1, jhI (jhI (jhL h 139 (8 + v1).toNatClampNeg (h.2 139 v1.toNatClampNeg)) 142 (8 + v1).toNatClampNeg ((jhL h 139 (8 + v1).toNatClampNeg (h.2 139 v1.toNatClampNeg)).1 142 v1.toNatClampNeg)) 143 (8 + v1).toNatClampNeg ((jhI (jhL h 139 (8 + v1).toNatClampNeg (h.2 139 v1.toNatClampNeg)) 142 (8 + v1).toNatClampNeg ((jhL h 139 (8 + v1).toNatClampNeg (h.2 139 v1.toNatClampNeg)).1 142 v1.toNatClampNeg)).1 143 v1.toNatClampNeg)) rfl
  · replace K := (if_neg hc7).symm.trans K
    obtain rfl := Option.some.inj K
    refine jx_le (pl' := [some (.ref 110), none]) (jle_v (jle_n jle_nil)) ?_
    exact HE0 _ rfl
theorem kM_stands_l48_w {X : jX} {dd : Nat} {p d : Nat} {q : Nat → Nat} {Q : Option Value → jS → Prop}   (hd : 0 ≤ dd) {s : Int32 × jH} {x : jH} (K : jlim (fM_stands_l48 ) s = some x) (HE : jEx X dd jc_227 105 [some (.ref 110), none] [] (176, jRf p d q, x) Q) :
    jEx X dd jc_227 48 [some (.ref 110), some (.int s.1)] [] (176, jRf p d q, s.2) Q := by
  refine jlim_ok (G := fun s : Int32 × jH => jEx X dd jc_227 48 [some (.ref 110), some (.int s.1)] [] (176, jRf p d q, s.2) Q) (GX := fun x : jH => jEx X dd jc_227 105 [some (.ref 110), none] [] (176, jRf p d q, x) Q) (fun s z hz HL HE => ?_) K HE
  exact kM_stands_l48_b  hd hz HL HE
noncomputable def fM_stands_l107_b (v1 : Int32) (h : jH) : Option ((Int32 × jH) ⊕ (jH)) :=
  (if v1 < 4 then
  (if jin v1 8 then
  (if jin (4 + v1) 8 then
  some (.inl (v1 + 1, jhI h 140 (4 + v1).toNatClampNeg (h.1 140 v1.toNatClampNeg)))
  else none)
  else none)
  else
  some (.inr h))
noncomputable def fM_stands_l107  : (Int32 × jH) → Option ((Int32 × jH) ⊕ (jH)) :=
  fun (s : Int32 × jH) => fM_stands_l107_b s.1 s.2
theorem kM_stands_l107_b {X : jX} {dd : Nat} {p d : Nat} {q : Nat → Nat} {Q : Option Value → jS → Prop} {v1 : Int32} {h : jH}  (hd : 0 ≤ dd) {z : (Int32 × jH) ⊕ (jH)} (K : fM_stands_l107_b v1 h = some z) (HL : ∀ s : Int32 × jH, z = .inl s → jEx X dd jc_227 107 [some (.ref 110), some (.int s.1)] [] (176, jRf p d q, s.2) Q) (HE0 : ∀ x : jH, z = .inr x → jEx X dd jc_227 132 [some (.ref 110), none] [] (176, jRf p d q, x) Q) :
    jEx X dd jc_227 107 [some (.ref 110), some (.int v1)] [] (176, jRf p d q, h) Q := by
  unfold fM_stands_l107_b at K
  refine jx_next (pc := 107) (pc' := 108) rfl rfl ?_
  refine jx_next (pc := 108) (pc' := 109) rfl rfl ?_
  refine jx_icge (pc := 109) rfl (fun hc15 => ?_) (fun hc15 => ?_)
  · replace K := (if_pos hc15).symm.trans K
    refine jx_next (pc := 112) (pc' := 113) rfl rfl ?_
    refine jx_getr2 (pc := 113) rfl jko_110 jr_12_38 ?_
    refine jx_next (pc := 116) (pc' := 117) rfl rfl ?_
    refine jx_next (pc := 117) (pc' := 118) rfl rfl ?_
    refine jx_next (pc := 118) (pc' := 119) rfl rfl ?_
    refine jx_next (pc := 119) (pc' := 120) rfl rfl ?_
    refine jx_getr2 (pc := 120) rfl jko_110 jr_12_38 ?_
    refine jx_next (pc := 123) (pc' := 124) rfl rfl ?_
    obtain ⟨hg16, K⟩ := jguard K
    refine jx_iald2 (pc := 124) rfl jko_140 jno_140 hg16 ?_
    obtain ⟨hg17, K⟩ := jguard K
    refine jx_iast2 (pc := 125) rfl jko_140 jno_140 hg17 ?_
    refine jx_inc (pc := 126) (x := v1) (p2 := [some (.ref 110), some (.int (v1 + 1))]) rfl rfl (jlt rfl) rfl ?_
    refine jx_next (pc := 129) (pc' := 107) rfl rfl ?_
    obtain rfl := Option.some.inj K
    refine jx_le (pl' := [some (.ref 110), some (.int (v1 + 1))]) (jle_v (jle_v jle_nil)) ?_
    exact HL (v1 + 1, jhI h 140 (4 + v1).toNatClampNeg (h.1 140 v1.toNatClampNeg)) rfl
  · replace K := (if_neg hc15).symm.trans K
    obtain rfl := Option.some.inj K
    refine jx_le (pl' := [some (.ref 110), none]) (jle_v (jle_n jle_nil)) ?_
    exact HE0 _ rfl
theorem kM_stands_l107_w {X : jX} {dd : Nat} {p d : Nat} {q : Nat → Nat} {Q : Option Value → jS → Prop}   (hd : 0 ≤ dd) {s : Int32 × jH} {x : jH} (K : jlim (fM_stands_l107 ) s = some x) (HE : jEx X dd jc_227 132 [some (.ref 110), none] [] (176, jRf p d q, x) Q) :
    jEx X dd jc_227 107 [some (.ref 110), some (.int s.1)] [] (176, jRf p d q, s.2) Q := by
  refine jlim_ok (G := fun s : Int32 × jH => jEx X dd jc_227 107 [some (.ref 110), some (.int s.1)] [] (176, jRf p d q, s.2) Q) (GX := fun x : jH => jEx X dd jc_227 132 [some (.ref 110), none] [] (176, jRf p d q, x) Q) (fun s z hz HL HE => ?_) K HE
  exact kM_stands_l107_b  hd hz HL HE
noncomputable def fM_stands_l134_b (v1 : Int32) (h : jH) : Option ((Int32 × jH) ⊕ (jH)) :=
  (if v1 < 32 then
  (if jin v1 64 then
  (if jin (32 + v1) 64 then
  some (.inl (v1 + 1, jhI h 141 (32 + v1).toNatClampNeg (h.1 141 v1.toNatClampNeg)))
  else none)
  else none)
  else
  some (.inr h))
noncomputable def fM_stands_l134  : (Int32 × jH) → Option ((Int32 × jH) ⊕ (jH)) :=
  fun (s : Int32 × jH) => fM_stands_l134_b s.1 s.2
theorem kM_stands_l134_b {X : jX} {dd : Nat} {p d : Nat} {q : Nat → Nat} {Q : Option Value → jS → Prop} {v1 : Int32} {h : jH}  (hd : 0 ≤ dd) {z : (Int32 × jH) ⊕ (jH)} (K : fM_stands_l134_b v1 h = some z) (HL : ∀ s : Int32 × jH, z = .inl s → jEx X dd jc_227 134 [some (.ref 110), some (.int s.1)] [] (176, jRf p d q, s.2) Q) (HE0 : ∀ x : jH, z = .inr x → jEx X dd jc_227 161 [some (.ref 110), none] [] (176, jRf p d q, x) Q) :
    jEx X dd jc_227 134 [some (.ref 110), some (.int v1)] [] (176, jRf p d q, h) Q := by
  unfold fM_stands_l134_b at K
  refine jx_next (pc := 134) (pc' := 135) rfl rfl ?_
  refine jx_next (pc := 135) (pc' := 137) rfl rfl ?_
  refine jx_icge (pc := 137) rfl (fun hc19 => ?_) (fun hc19 => ?_)
  · replace K := (if_pos hc19).symm.trans K
    refine jx_next (pc := 140) (pc' := 141) rfl rfl ?_
    refine jx_getr2 (pc := 141) rfl jko_110 jr_12_39 ?_
    refine jx_next (pc := 144) (pc' := 146) rfl rfl ?_
    refine jx_next (pc := 146) (pc' := 147) rfl rfl ?_
    refine jx_next (pc := 147) (pc' := 148) rfl rfl ?_
    refine jx_next (pc := 148) (pc' := 149) rfl rfl ?_
    refine jx_getr2 (pc := 149) rfl jko_110 jr_12_39 ?_
    refine jx_next (pc := 152) (pc' := 153) rfl rfl ?_
    obtain ⟨hg20, K⟩ := jguard K
    refine jx_iald2 (pc := 153) rfl jko_141 jno_141 hg20 ?_
    obtain ⟨hg21, K⟩ := jguard K
    refine jx_iast2 (pc := 154) rfl jko_141 jno_141 hg21 ?_
    refine jx_inc (pc := 155) (x := v1) (p2 := [some (.ref 110), some (.int (v1 + 1))]) rfl rfl (jlt rfl) rfl ?_
    refine jx_next (pc := 158) (pc' := 134) rfl rfl ?_
    obtain rfl := Option.some.inj K
    refine jx_le (pl' := [some (.ref 110), some (.int (v1 + 1))]) (jle_v (jle_v jle_nil)) ?_
    exact HL (v1 + 1, jhI h 141 (32 + v1).toNatClampNeg (h.1 141 v1.toNatClampNeg)) rfl
  · replace K := (if_neg hc19).symm.trans K
    obtain rfl := Option.some.inj K
    refine jx_le (pl' := [some (.ref 110), none]) (jle_v (jle_n jle_nil)) ?_
    exact HE0 _ rfl
theorem kM_stands_l134_w {X : jX} {dd : Nat} {p d : Nat} {q : Nat → Nat} {Q : Option Value → jS → Prop}   (hd : 0 ≤ dd) {s : Int32 × jH} {x : jH} (K : jlim (fM_stands_l134 ) s = some x) (HE : jEx X dd jc_227 161 [some (.ref 110), none] [] (176, jRf p d q, x) Q) :
    jEx X dd jc_227 134 [some (.ref 110), some (.int s.1)] [] (176, jRf p d q, s.2) Q := by
  refine jlim_ok (G := fun s : Int32 × jH => jEx X dd jc_227 134 [some (.ref 110), some (.int s.1)] [] (176, jRf p d q, s.2) Q) (GX := fun x : jH => jEx X dd jc_227 161 [some (.ref 110), none] [] (176, jRf p d q, x) Q) (fun s z hz HL HE => ?_) K HE
  exact kM_stands_l134_b  hd hz HL HE
noncomputable def fM_stands_l187_b (v1 : Int32) (h : jH) : Option ((Int32 × jH) ⊕ (jH)) :=
  (if v1 < (h.1 110 46) then
  (if jin v1 3200 then
  (if jin (1600 + v1) 3200 then
  some (.inl (v1 + 1, jhI h 147 (1600 + v1).toNatClampNeg (h.1 147 v1.toNatClampNeg)))
  else none)
  else none)
  else
  some (.inr h))
noncomputable def fM_stands_l187  : (Int32 × jH) → Option ((Int32 × jH) ⊕ (jH)) :=
  fun (s : Int32 × jH) => fM_stands_l187_b s.1 s.2
theorem kM_stands_l187_b {X : jX} {dd : Nat} {p d : Nat} {q : Nat → Nat} {Q : Option Value → jS → Prop} {v1 : Int32} {h : jH}  (hd : 0 ≤ dd) {z : (Int32 × jH) ⊕ (jH)} (K : fM_stands_l187_b v1 h = some z) (HL : ∀ s : Int32 × jH, z = .inl s → jEx X dd jc_227 187 [some (.ref 110), some (.int s.1)] [] (176, jRf p d q, s.2) Q) (HE0 : ∀ x : jH, z = .inr x → jEx X dd jc_227 217 [some (.ref 110), none] [] (176, jRf p d q, x) Q) :
    jEx X dd jc_227 187 [some (.ref 110), some (.int v1)] [] (176, jRf p d q, h) Q := by
  unfold fM_stands_l187_b at K
  refine jx_next (pc := 187) (pc' := 188) rfl rfl ?_
  refine jx_next (pc := 188) (pc' := 189) rfl rfl ?_
  refine jx_geti (pc := 189) rfl jko_110 ?_
  refine jx_icge (pc := 192) rfl (fun hc27 => ?_) (fun hc27 => ?_)
  · replace K := (if_pos hc27).symm.trans K
    refine jx_next (pc := 195) (pc' := 196) rfl rfl ?_
    refine jx_getr2 (pc := 196) rfl jko_110 jr_12_45 ?_
    refine jx_next (pc := 199) (pc' := 202) rfl rfl ?_
    refine jx_next (pc := 202) (pc' := 203) rfl rfl ?_
    refine jx_next (pc := 203) (pc' := 204) rfl rfl ?_
    refine jx_next (pc := 204) (pc' := 205) rfl rfl ?_
    refine jx_getr2 (pc := 205) rfl jko_110 jr_12_45 ?_
    refine jx_next (pc := 208) (pc' := 209) rfl rfl ?_
    obtain ⟨hg28, K⟩ := jguard K
    refine jx_iald2 (pc := 209) rfl jko_147 jno_147 hg28 ?_
    obtain ⟨hg29, K⟩ := jguard K
    refine jx_iast2 (pc := 210) rfl jko_147 jno_147 hg29 ?_
    refine jx_inc (pc := 211) (x := v1) (p2 := [some (.ref 110), some (.int (v1 + 1))]) rfl rfl (jlt rfl) rfl ?_
    refine jx_next (pc := 214) (pc' := 187) rfl rfl ?_
    obtain rfl := Option.some.inj K
    refine jx_le (pl' := [some (.ref 110), some (.int (v1 + 1))]) (jle_v (jle_v jle_nil)) ?_
    exact HL (v1 + 1, jhI h 147 (1600 + v1).toNatClampNeg (h.1 147 v1.toNatClampNeg)) rfl
  · replace K := (if_neg hc27).symm.trans K
    obtain rfl := Option.some.inj K
    refine jx_le (pl' := [some (.ref 110), none]) (jle_v (jle_n jle_nil)) ?_
    exact HE0 _ rfl
theorem kM_stands_l187_w {X : jX} {dd : Nat} {p d : Nat} {q : Nat → Nat} {Q : Option Value → jS → Prop}   (hd : 0 ≤ dd) {s : Int32 × jH} {x : jH} (K : jlim (fM_stands_l187 ) s = some x) (HE : jEx X dd jc_227 217 [some (.ref 110), none] [] (176, jRf p d q, x) Q) :
    jEx X dd jc_227 187 [some (.ref 110), some (.int s.1)] [] (176, jRf p d q, s.2) Q := by
  refine jlim_ok (G := fun s : Int32 × jH => jEx X dd jc_227 187 [some (.ref 110), some (.int s.1)] [] (176, jRf p d q, s.2) Q) (GX := fun x : jH => jEx X dd jc_227 217 [some (.ref 110), none] [] (176, jRf p d q, x) Q) (fun s z hz HL HE => ?_) K HE
  exact kM_stands_l187_b  hd hz HL HE
noncomputable def fM_stands_l219_b (v1 : Int32) (h : jH) : Option ((Int32 × jH) ⊕ (jH)) :=
  (if v1 < 18 then
  (if jin v1 18 then
  some (.inl (v1 + 1, jhI h 148 v1.toNatClampNeg 0))
  else none)
  else
  some (.inr h))
noncomputable def fM_stands_l219  : (Int32 × jH) → Option ((Int32 × jH) ⊕ (jH)) :=
  fun (s : Int32 × jH) => fM_stands_l219_b s.1 s.2
theorem kM_stands_l219_b {X : jX} {dd : Nat} {p d : Nat} {q : Nat → Nat} {Q : Option Value → jS → Prop} {v1 : Int32} {h : jH}  (hd : 0 ≤ dd) {z : (Int32 × jH) ⊕ (jH)} (K : fM_stands_l219_b v1 h = some z) (HL : ∀ s : Int32 × jH, z = .inl s → jEx X dd jc_227 219 [some (.ref 110), some (.int s.1)] [] (176, jRf p d q, s.2) Q) (HE0 : ∀ x : jH, z = .inr x → jEx X dd jc_227 238 [some (.ref 110), none] [] (176, jRf p d q, x) Q) :
    jEx X dd jc_227 219 [some (.ref 110), some (.int v1)] [] (176, jRf p d q, h) Q := by
  unfold fM_stands_l219_b at K
  refine jx_next (pc := 219) (pc' := 220) rfl rfl ?_
  refine jx_next (pc := 220) (pc' := 222) rfl rfl ?_
  refine jx_icge (pc := 222) rfl (fun hc31 => ?_) (fun hc31 => ?_)
  · replace K := (if_pos hc31).symm.trans K
    refine jx_next (pc := 225) (pc' := 226) rfl rfl ?_
    refine jx_getr2 (pc := 226) rfl jko_110 jr_12_50 ?_
    refine jx_next (pc := 229) (pc' := 230) rfl rfl ?_
    refine jx_next (pc := 230) (pc' := 231) rfl rfl ?_
    obtain ⟨hg32, K⟩ := jguard K
    refine jx_iast2 (pc := 231) rfl jko_148 jno_148 hg32 ?_
    refine jx_inc (pc := 232) (x := v1) (p2 := [some (.ref 110), some (.int (v1 + 1))]) rfl rfl (jlt rfl) rfl ?_
    refine jx_next (pc := 235) (pc' := 219) rfl rfl ?_
    obtain rfl := Option.some.inj K
    refine jx_le (pl' := [some (.ref 110), some (.int (v1 + 1))]) (jle_v (jle_v jle_nil)) ?_
    exact HL (v1 + 1, jhI h 148 v1.toNatClampNeg 0) rfl
  · replace K := (if_neg hc31).symm.trans K
    obtain rfl := Option.some.inj K
    refine jx_le (pl' := [some (.ref 110), none]) (jle_v (jle_n jle_nil)) ?_
    exact HE0 _ rfl
theorem kM_stands_l219_w {X : jX} {dd : Nat} {p d : Nat} {q : Nat → Nat} {Q : Option Value → jS → Prop}   (hd : 0 ≤ dd) {s : Int32 × jH} {x : jH} (K : jlim (fM_stands_l219 ) s = some x) (HE : jEx X dd jc_227 238 [some (.ref 110), none] [] (176, jRf p d q, x) Q) :
    jEx X dd jc_227 219 [some (.ref 110), some (.int s.1)] [] (176, jRf p d q, s.2) Q := by
  refine jlim_ok (G := fun s : Int32 × jH => jEx X dd jc_227 219 [some (.ref 110), some (.int s.1)] [] (176, jRf p d q, s.2) Q) (GX := fun x : jH => jEx X dd jc_227 238 [some (.ref 110), none] [] (176, jRf p d q, x) Q) (fun s z hz HL HE => ?_) K HE
  exact kM_stands_l219_b  hd hz HL HE
/-- AndGuestModel.stands()V -/
noncomputable def fM_stands  (h : jH) : Option jH :=
  (Option.bind (jlim (fM_stands_l7 ) (0, jhI h 110 48 1)) (fun (x6 : jH) =>
  (Option.bind (jlim (fM_stands_l48 ) (0, x6)) (fun (x14 : jH) =>
  (Option.bind (jlim (fM_stands_l107 ) (0, x14)) (fun (x18 : jH) =>
  (Option.bind (jlim (fM_stands_l134 ) (0, x18)) (fun (x22 : jH) =>
  (if jin 0 2 then
  (if jin 1 2 then
  (if jin 0 2 then
  (if jin 1 2 then
  (Option.bind (jlim (fM_stands_l187 ) (0, jhI (jhI x22 145 (1 : Int32).toNatClampNeg (x22.1 145 (0 : Int32).toNatClampNeg)) 146 (1 : Int32).toNatClampNeg ((jhI x22 145 (1 : Int32).toNatClampNeg (x22.1 145 (0 : Int32).toNatClampNeg)).1 146 (0 : Int32).toNatClampNeg))) (fun (x30 : jH) =>
  (Option.bind (jlim (fM_stands_l219 ) (0, x30)) (fun (x33 : jH) =>
  (if jin 1 18 then
  some (jhI (jhI x33 148 (1 : Int32).toNatClampNeg (-1)) 110 56 0)
  else none)))))
  else none)
  else none)
  else none)
  else none)))))))))
theorem kM_stands {X : jX} {dd : Nat} {p d : Nat} {q : Nat → Nat} {Q : Option Value → jS → Prop}  {h : jH}  (hd : 0 ≤ dd) {z : jH} (K : fM_stands  h = some z) (HQ : Q none (176, jRf p d q, z)) :
    jCa X dd 227 [.ref 110] (176, jRf p d q, h) Q := by
  unfold fM_stands at K
  refine jCa_of (es := jc_227) (pl := [some (.ref 110), none]) (M := jm_227) rfl rfl rfl rfl ?_
  refine jx_next (pc := 0) (pc' := 1) rfl rfl ?_
  refine jx_next (pc := 1) (pc' := 2) rfl rfl ?_
  refine jx_putz (pc := 2) rfl jko_110 (Or.inr rfl) ?_
  refine jx_next (pc := 5) (pc' := 6) rfl rfl ?_
  refine jx_stin (pc := 6) (p2 := [some (.ref 110), some (.int 0)]) rfl (jlt rfl) rfl ?_
  refine jx_le (pl' := [some (.ref 110), some (.int 0)]) (jle_v (jle_v jle_nil)) ?_
  obtain ⟨x6, hz_x6, K⟩ := Option.bind_eq_some_iff.mp K
  refine kM_stands_l7_w  hd hz_x6 ?_
  refine jx_next (pc := 46) (pc' := 47) rfl rfl ?_
  refine jx_stin (pc := 47) (p2 := [some (.ref 110), some (.int 0)]) rfl (jlt rfl) rfl ?_
  refine jx_le (pl' := [some (.ref 110), some (.int 0)]) (jle_v (jle_v jle_nil)) ?_
  obtain ⟨x14, hz_x14, K⟩ := Option.bind_eq_some_iff.mp K
  refine kM_stands_l48_w  hd hz_x14 ?_
  refine jx_next (pc := 105) (pc' := 106) rfl rfl ?_
  refine jx_stin (pc := 106) (p2 := [some (.ref 110), some (.int 0)]) rfl (jlt rfl) rfl ?_
  refine jx_le (pl' := [some (.ref 110), some (.int 0)]) (jle_v (jle_v jle_nil)) ?_
  obtain ⟨x18, hz_x18, K⟩ := Option.bind_eq_some_iff.mp K
  refine kM_stands_l107_w  hd hz_x18 ?_
  refine jx_next (pc := 132) (pc' := 133) rfl rfl ?_
  refine jx_stin (pc := 133) (p2 := [some (.ref 110), some (.int 0)]) rfl (jlt rfl) rfl ?_
  refine jx_le (pl' := [some (.ref 110), some (.int 0)]) (jle_v (jle_v jle_nil)) ?_
  obtain ⟨x22, hz_x22, K⟩ := Option.bind_eq_some_iff.mp K
  refine kM_stands_l134_w  hd hz_x22 ?_
  refine jx_next (pc := 161) (pc' := 162) rfl rfl ?_
  refine jx_getr2 (pc := 162) rfl jko_110 jr_12_43 ?_
  refine jx_next (pc := 165) (pc' := 166) rfl rfl ?_
  refine jx_next (pc := 166) (pc' := 167) rfl rfl ?_
  refine jx_getr2 (pc := 167) rfl jko_110 jr_12_43 ?_
  refine jx_next (pc := 170) (pc' := 171) rfl rfl ?_
  obtain ⟨hg23, K⟩ := jguard K
  refine jx_iald2 (pc := 171) rfl jko_145 jno_145 hg23 ?_
  obtain ⟨hg24, K⟩ := jguard K
  refine jx_iast2 (pc := 172) rfl jko_145 jno_145 hg24 ?_
  refine jx_next (pc := 173) (pc' := 174) rfl rfl ?_
  refine jx_getr2 (pc := 174) rfl jko_110 jr_12_44 ?_
  refine jx_next (pc := 177) (pc' := 178) rfl rfl ?_
  refine jx_next (pc := 178) (pc' := 179) rfl rfl ?_
  refine jx_getr2 (pc := 179) rfl jko_110 jr_12_44 ?_
  refine jx_next (pc := 182) (pc' := 183) rfl rfl ?_
  obtain ⟨hg25, K⟩ := jguard K
  refine jx_iald2 (pc := 183) rfl jko_146 jno_146 hg25 ?_
  obtain ⟨hg26, K⟩ := jguard K
  refine jx_iast2 (pc := 184) rfl jko_146 jno_146 hg26 ?_
  refine jx_next (pc := 185) (pc' := 186) rfl rfl ?_
  refine jx_stin (pc := 186) (p2 := [some (.ref 110), some (.int 0)]) rfl (jlt rfl) rfl ?_
  refine jx_le (pl' := [some (.ref 110), some (.int 0)]) (jle_v (jle_v jle_nil)) ?_
  obtain ⟨x30, hz_x30, K⟩ := Option.bind_eq_some_iff.mp K
  refine kM_stands_l187_w  hd hz_x30 ?_
  refine jx_next (pc := 217) (pc' := 218) rfl rfl ?_
  refine jx_stin (pc := 218) (p2 := [some (.ref 110), some (.int 0)]) rfl (jlt rfl) rfl ?_
  refine jx_le (pl' := [some (.ref 110), some (.int 0)]) (jle_v (jle_v jle_nil)) ?_
  obtain ⟨x33, hz_x33, K⟩ := Option.bind_eq_some_iff.mp K
  refine kM_stands_l219_w  hd hz_x33 ?_
  refine jx_next (pc := 238) (pc' := 239) rfl rfl ?_
  refine jx_getr2 (pc := 239) rfl jko_110 jr_12_50 ?_
  refine jx_next (pc := 242) (pc' := 243) rfl rfl ?_
  refine jx_next (pc := 243) (pc' := 244) rfl rfl ?_
  obtain ⟨hg34, K⟩ := jguard K
  refine jx_iast2 (pc := 244) rfl jko_148 jno_148 hg34 ?_
  refine jx_next (pc := 245) (pc' := 246) rfl rfl ?_
  refine jx_next (pc := 246) (pc' := 247) rfl rfl ?_
  refine jx_puti (pc := 247) rfl jko_110 ?_
  obtain rfl := Option.some.inj K
  exact jx_ret (pc := 250) rfl rfl HQ
