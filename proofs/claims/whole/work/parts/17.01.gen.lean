/-- AndGuest$Reader.takesWord(LAndGuest$Word;)Z -/
noncomputable def fRd_takesWord (v1 : Nat) (h : jH) : Option (Int32 × jH) :=
  (if (fRd_standsWord v1 h) = 0 then
  (if (fRd_standsWord v1 h) = 0 ∨ (fRd_standsWord v1 h) = 1 then some ((fRd_standsWord v1 h), h) else none)
  else
  (Option.bind (fRd_step h) (fun (z3 : jH) =>
  (if (fRd_standsWord v1 h) = 0 ∨ (fRd_standsWord v1 h) = 1 then some ((fRd_standsWord v1 h), z3) else none))))
theorem kRd_takesWord {X : jX} {dd : Nat} {p d : Nat} {q : Nat → Nat} {Q : Option Value → jS → Prop} {v1 : Nat} {h : jH} (hP : jOK p d q) (hv1 : jcl 176 v1 = 13) (hd : 2 ≤ dd) {z : Int32 × jH} (K : fRd_takesWord v1 h = some z) (HQ : Q (some (.int z.1)) (176, jRf p d q, z.2)) :
    jCa X dd 44 [.ref 6, .ref v1] (176, jRf p d q, h) Q := by
  obtain ⟨dd, rfl⟩ : ∃ d9, dd = d9 + 1 := ⟨dd - 1, by omega⟩
  unfold fRd_takesWord at K
  refine jCa_of (es := jc_44) (pl := [some (.ref 6), some (.ref v1), none]) (M := jm_44) rfl rfl rfl rfl ?_
  refine jx_next (pc := 0) (pc' := 1) rfl rfl ?_
  refine jx_next (pc := 1) (pc' := 2) rfl rfl ?_
  refine jx_callv (pc := 2) (o := 6) (rest := []) rfl ⟨by decide, by decide⟩ rfl jko_6 (Nat.le_of_ble_eq_true rfl) ?_
  refine kRd_standsWord hP hv1 (by omega) rfl ?_
  refine jx_stin (pc := 5) (p2 := [some (.ref 6), some (.ref v1), some (.int (fRd_standsWord v1 h))]) rfl (jlt rfl) rfl ?_
  refine jx_next (pc := 6) (pc' := 7) rfl rfl ?_
  refine jx_ifeq (pc := 7) rfl (fun hc2 => ?_) (fun hc2 => ?_)
  · replace K := (if_pos hc2).symm.trans K
    refine jx_next (pc := 14) (pc' := 15) rfl rfl ?_
    obtain ⟨hg, K⟩ := jguard K
    obtain rfl := Option.some.inj K
    exact jx_zret (pc := 15) rfl hg HQ
  · replace K := (if_neg hc2).symm.trans K
    refine jx_next (pc := 10) (pc' := 11) rfl rfl ?_
    refine jx_callv (pc := 11) (o := 6) (rest := []) rfl ⟨by decide, by decide⟩ rfl jko_6 (Nat.le_of_ble_eq_true rfl) ?_
    obtain ⟨z3, hz_z3, K⟩ := Option.bind_eq_some_iff.mp K
    refine kRd_step hP (by omega) hz_z3 ?_
    refine jx_next (pc := 14) (pc' := 15) rfl rfl ?_
    obtain ⟨hg, K⟩ := jguard K
    obtain rfl := Option.some.inj K
    exact jx_zret (pc := 15) rfl hg HQ
/-- AndGuest$Reader.here()I -/
noncomputable def fRd_here  (h : jH) : Int32 :=
  (h.1 6 1 : Int32)
theorem kRd_here {X : jX} {dd : Nat} {p d : Nat} {q : Nat → Nat} {Q : Option Value → jS → Prop}  {h : jH} (hP : jOK p d q)  (hd : 0 ≤ dd) {z : Int32} (K : fRd_here  h = z) (HQ : Q (some (.int z)) (176, jRf p d q, h)) :
    jCa X dd 45 [.ref 6] (176, jRf p d q, h) Q := by
  unfold fRd_here at K
  refine jCa_of (es := jc_45) (pl := [some (.ref 6)]) (M := jm_45) rfl rfl rfl rfl ?_
  refine jx_next (pc := 0) (pc' := 1) rfl rfl ?_
  refine jx_geti (pc := 1) rfl jko_6 ?_
  obtain rfl := K
  exact jx_iret (pc := 4) rfl HQ
noncomputable def fWd_isOwn_l2_j35 (v0 : Int32) (v1 : Int32) (h : jH) : Option ((Int32) ⊕ ((Unit) ⊕ (Unit))) :=
  some (.inl (v1 + 1))
theorem kWd_isOwn_l2_j35 {X : jX} {dd : Nat} {p d : Nat} {q : Nat → Nat} {Q : Option Value → jS → Prop} {v0 : Int32} {v1 : Int32} {h : jH} (hP : jOK p d q)  (hd : 0 ≤ dd) {z : (Int32) ⊕ ((Unit) ⊕ (Unit))} (K : fWd_isOwn_l2_j35 v0 v1 h = some z) (HL : ∀ s : Int32, z = .inl s → jEx X dd jc_47 2 [some (.int v0), some (.int s)] [] (176, jRf p d q, h) Q) (HE0 : ∀ x : Unit, z = .inr (.inl x) → jEx X dd jc_47 33 [none, none] [] (176, jRf p d q, h) Q) (HE1 : ∀ x : Unit, z = .inr (.inr x) → jEx X dd jc_47 41 [none, none] [] (176, jRf p d q, h) Q) :
    jEx X dd jc_47 35 [some (.int v0), some (.int v1)] [] (176, jRf p d q, h) Q := by
  unfold fWd_isOwn_l2_j35 at K
  refine jx_inc (pc := 35) (x := v1) (p2 := [some (.int v0), some (.int (v1 + 1))]) rfl rfl (jlt rfl) rfl ?_
  refine jx_next (pc := 38) (pc' := 2) rfl rfl ?_
  obtain rfl := Option.some.inj K
  refine jx_le (pl' := [some (.int v0), some (.int (v1 + 1))]) (jle_v (jle_v jle_nil)) ?_
  exact HL (v1 + 1) rfl
noncomputable def fWd_isOwn_l2_b (v0 : Int32) (v1 : Int32) (h : jH) : Option ((Int32) ⊕ ((Unit) ⊕ (Unit))) :=
  (if v1 < 31 then
  (if jin v1 31 then
  (if (jwc (1000 + v1.toNatClampNeg) 1) = 0 then
  fWd_isOwn_l2_j35  v0 v1 h
  else
  (if jin v1 31 then
  (if (jwc (1000 + v1.toNatClampNeg) 0) = v0 then
  some (.inr (.inl ()))
  else
  fWd_isOwn_l2_j35  v0 v1 h)
  else none))
  else none)
  else
  some (.inr (.inr ())))
noncomputable def fWd_isOwn_l2 (v0 : Int32) (h : jH) : Int32 → Option ((Int32) ⊕ ((Unit) ⊕ (Unit))) :=
  fun (s : Int32) => fWd_isOwn_l2_b v0 s h
theorem kWd_isOwn_l2_b {X : jX} {dd : Nat} {p d : Nat} {q : Nat → Nat} {Q : Option Value → jS → Prop} {v0 : Int32} {v1 : Int32} {h : jH} (hP : jOK p d q)  (hd : 0 ≤ dd) {z : (Int32) ⊕ ((Unit) ⊕ (Unit))} (K : fWd_isOwn_l2_b v0 v1 h = some z) (HL : ∀ s : Int32, z = .inl s → jEx X dd jc_47 2 [some (.int v0), some (.int s)] [] (176, jRf p d q, h) Q) (HE0 : ∀ x : Unit, z = .inr (.inl x) → jEx X dd jc_47 33 [none, none] [] (176, jRf p d q, h) Q) (HE1 : ∀ x : Unit, z = .inr (.inr x) → jEx X dd jc_47 41 [none, none] [] (176, jRf p d q, h) Q) :
    jEx X dd jc_47 2 [some (.int v0), some (.int v1)] [] (176, jRf p d q, h) Q := by
  unfold fWd_isOwn_l2_b at K
  refine jx_next (pc := 2) (pc' := 3) rfl rfl ?_
  refine jx_next (pc := 3) (pc' := 6) rfl rfl ?_
  refine jx_wlen (pc := 6) rfl (by decide) ?_
  refine jx_icge (pc := 7) rfl (fun hc1 => ?_) (fun hc1 => ?_)
  · replace K := (if_pos hc1).symm.trans K
    refine jx_next (pc := 10) (pc' := 13) rfl rfl ?_
    refine jx_next (pc := 13) (pc' := 14) rfl rfl ?_
    obtain ⟨hg2, K⟩ := jguard K
    refine jx_wald (pc := 14) rfl (by decide) hg2 ?_
    refine jx_getw (pc := 15) rfl (jword hg2) ?_
    refine jx_ifeq (pc := 18) rfl (fun hc3 => ?_) (fun hc3 => ?_)
    · replace K := (if_pos hc3).symm.trans K
      refine jx_le (pl' := [some (.int v0), some (.int v1)]) (jle_v (jle_v jle_nil)) ?_
      exact kWd_isOwn_l2_j35 hP  hd K HL HE0 HE1
    · replace K := (if_neg hc3).symm.trans K
      refine jx_next (pc := 21) (pc' := 24) rfl rfl ?_
      refine jx_next (pc := 24) (pc' := 25) rfl rfl ?_
      obtain ⟨hg4, K⟩ := jguard K
      refine jx_wald (pc := 25) rfl (by decide) hg4 ?_
      refine jx_getw (pc := 26) rfl (jword hg4) ?_
      refine jx_next (pc := 29) (pc' := 30) rfl rfl ?_
      refine jx_icne (pc := 30) rfl (fun hc5 => ?_) (fun hc5 => ?_)
      · replace K := (if_pos hc5).symm.trans K
        obtain rfl := Option.some.inj K
        refine jx_le (pl' := [none, none]) (jle_n (jle_n jle_nil)) ?_
        exact HE0 _ rfl
      · replace K := (if_neg hc5).symm.trans K
        refine jx_le (pl' := [some (.int v0), some (.int v1)]) (jle_v (jle_v jle_nil)) ?_
        exact kWd_isOwn_l2_j35 hP  hd K HL HE0 HE1
  · replace K := (if_neg hc1).symm.trans K
    obtain rfl := Option.some.inj K
    refine jx_le (pl' := [none, none]) (jle_n (jle_n jle_nil)) ?_
    exact HE1 _ rfl
theorem kWd_isOwn_l2_w {X : jX} {dd : Nat} {p d : Nat} {q : Nat → Nat} {Q : Option Value → jS → Prop} {v0 : Int32} {h : jH} (hP : jOK p d q)  (hd : 0 ≤ dd) {s : Int32} {x : (Unit) ⊕ (Unit)} (K : jlim (fWd_isOwn_l2 v0 h) s = some x) (HE0 : ∀ x0 : Unit, x = .inl x0 → jEx X dd jc_47 33 [none, none] [] (176, jRf p d q, h) Q) (HE1 : ∀ x0 : Unit, x = .inr x0 → jEx X dd jc_47 41 [none, none] [] (176, jRf p d q, h) Q) :
    jEx X dd jc_47 2 [some (.int v0), some (.int s)] [] (176, jRf p d q, h) Q := by
  refine jlim_ok (G := fun s : Int32 => jEx X dd jc_47 2 [some (.int v0), some (.int s)] [] (176, jRf p d q, h) Q) (GX := fun x : (Unit) ⊕ (Unit) => (∀ x0 : Unit, x = .inl x0 → jEx X dd jc_47 33 [none, none] [] (176, jRf p d q, h) Q) ∧ (∀ x0 : Unit, x = .inr x0 → jEx X dd jc_47 41 [none, none] [] (176, jRf p d q, h) Q)) (fun s z hz HL HE => ?_) K ⟨HE0, HE1⟩
  exact kWd_isOwn_l2_b hP  hd hz HL (fun x hx => (HE _ hx).1 x rfl) (fun x hx => (HE _ hx).2 x rfl)
/-- AndGuest$Word.isOwn(I)Z -/
noncomputable def fWd_isOwn (v0 : Int32) (h : jH) : Option Int32 :=
  (Option.bind (jlim (fWd_isOwn_l2  v0 h) 0) (fun (x6 : (Unit) ⊕ (Unit)) => Sum.elim (fun (y6 : Unit) =>
  some (1 : Int32)) (fun (y6 : Unit) =>
  some (0 : Int32)) x6))
theorem kWd_isOwn {X : jX} {dd : Nat} {p d : Nat} {q : Nat → Nat} {Q : Option Value → jS → Prop} {v0 : Int32} {h : jH} (hP : jOK p d q)  (hd : 0 ≤ dd) {z : Int32} (K : fWd_isOwn v0 h = some z) (HQ : Q (some (.int z)) (176, jRf p d q, h)) :
    jCa X dd 47 [.int v0] (176, jRf p d q, h) Q := by
  unfold fWd_isOwn at K
  refine jCa_of (es := jc_47) (pl := [some (.int v0), none]) (M := jm_47) rfl rfl rfl rfl ?_
  refine jx_next (pc := 0) (pc' := 1) rfl rfl ?_
  refine jx_stin (pc := 1) (p2 := [some (.int v0), some (.int 0)]) rfl (jlt rfl) rfl ?_
  refine jx_le (pl' := [some (.int v0), some (.int 0)]) (jle_v (jle_v jle_nil)) ?_
  obtain ⟨x6, hz_x6, K⟩ := Option.bind_eq_some_iff.mp K
  refine kWd_isOwn_l2_w hP  hd hz_x6 (fun y6 hx9 => ?_) (fun y6 hx9 => ?_)
  · subst hx9
    refine jx_next (pc := 33) (pc' := 34) rfl rfl ?_
    obtain rfl := Option.some.inj K
    exact jx_zret (pc := 34) rfl (Or.inr rfl) HQ
  · subst hx9
    refine jx_next (pc := 41) (pc' := 42) rfl rfl ?_
    obtain rfl := Option.some.inj K
    exact jx_zret (pc := 42) rfl (Or.inl rfl) HQ
/-- AndGuest$Reader.wantsName()I -/
noncomputable def fRd_wantsName  (h : jH) : Option (Int32 × jH) :=
  (if (h.1 6 3) = 1 then
  (if 6 < ((h.1 6 2) - (h.1 6 1)) then
  some (0, (fRd_fail 1 ((h.1 6 1) + 6) h))
  else
  (Option.bind (fWd_isOwn (h.1 6 4) h) (fun (z4 : Int32) =>
  (if z4 = 0 then
  (Option.bind (fRd_step h) (fun (z6 : jH) =>
  some (h.1 6 4, z6)))
  else
  some (0, (fRd_failHere 1 h))))))
  else
  some (0, (fRd_failHere 1 h)))
theorem kRd_wantsName {X : jX} {dd : Nat} {p d : Nat} {q : Nat → Nat} {Q : Option Value → jS → Prop}  {h : jH} (hP : jOK p d q)  (hd : 2 ≤ dd) {z : Int32 × jH} (K : fRd_wantsName  h = some z) (HQ : Q (some (.int z.1)) (176, jRf p d q, z.2)) :
    jCa X dd 46 [.ref 6] (176, jRf p d q, h) Q := by
  obtain ⟨dd, rfl⟩ : ∃ d9, dd = d9 + 1 := ⟨dd - 1, by omega⟩
  unfold fRd_wantsName at K
  refine jCa_of (es := jc_46) (pl := [some (.ref 6), none]) (M := jm_46) rfl rfl rfl rfl ?_
  refine jx_next (pc := 0) (pc' := 1) rfl rfl ?_
  refine jx_geti (pc := 1) rfl jko_6 ?_
  refine jx_stin (pc := 4) (p2 := [some (.ref 6), some (.int (h.1 6 4))]) rfl (jlt rfl) rfl ?_
  refine jx_next (pc := 5) (pc' := 6) rfl rfl ?_
  refine jx_geti (pc := 6) rfl jko_6 ?_
  refine jx_next (pc := 9) (pc' := 10) rfl rfl ?_
  refine jx_iceq (pc := 10) rfl (fun hc1 => ?_) (fun hc1 => ?_)
  · replace K := (if_pos hc1).symm.trans K
    refine jx_next (pc := 21) (pc' := 22) rfl rfl ?_
    refine jx_geti (pc := 22) rfl jko_6 ?_
    refine jx_next (pc := 25) (pc' := 26) rfl rfl ?_
    refine jx_geti (pc := 26) rfl jko_6 ?_
    refine jx_next (pc := 29) (pc' := 30) rfl rfl ?_
    refine jx_next (pc := 30) (pc' := 32) rfl rfl ?_
    refine jx_icle (pc := 32) rfl (fun hc2 => ?_) (fun hc2 => ?_)
    · replace K := (if_pos hc2).symm.trans K
      refine jx_next (pc := 35) (pc' := 36) rfl rfl ?_
      refine jx_next (pc := 36) (pc' := 37) rfl rfl ?_
      refine jx_next (pc := 37) (pc' := 38) rfl rfl ?_
      refine jx_geti (pc := 38) rfl jko_6 ?_
      refine jx_next (pc := 41) (pc' := 43) rfl rfl ?_
      refine jx_next (pc := 43) (pc' := 44) rfl rfl ?_
      refine jx_callv (pc := 44) (o := 6) (rest := []) rfl ⟨by decide, by decide⟩ rfl jko_6 (Nat.le_of_ble_eq_true rfl) ?_
      refine kRd_fail hP (by omega) rfl ?_
      refine jx_next (pc := 47) (pc' := 71) rfl rfl ?_
      refine jx_next (pc := 71) (pc' := 72) rfl rfl ?_
      obtain rfl := Option.some.inj K
      exact jx_iret (pc := 72) rfl HQ
    · replace K := (if_neg hc2).symm.trans K
      refine jx_next (pc := 50) (pc' := 51) rfl rfl ?_
      refine jx_calls (pc := 51) rfl (Nat.le_of_ble_eq_true rfl) (Nat.le_of_ble_eq_true rfl) ?_
      obtain ⟨z4, hz_z4, K⟩ := Option.bind_eq_some_iff.mp K
      refine kWd_isOwn hP (by omega) hz_z4 ?_
      refine jx_ifeq (pc := 54) rfl (fun hc5 => ?_) (fun hc5 => ?_)
      · replace K := (if_pos hc5).symm.trans K
        refine jx_next (pc := 65) (pc' := 66) rfl rfl ?_
        refine jx_callv (pc := 66) (o := 6) (rest := []) rfl ⟨by decide, by decide⟩ rfl jko_6 (Nat.le_of_ble_eq_true rfl) ?_
        obtain ⟨z6, hz_z6, K⟩ := Option.bind_eq_some_iff.mp K
        refine kRd_step hP (by omega) hz_z6 ?_
        refine jx_next (pc := 69) (pc' := 70) rfl rfl ?_
        obtain rfl := Option.some.inj K
        exact jx_iret (pc := 70) rfl HQ
      · replace K := (if_neg hc5).symm.trans K
        refine jx_next (pc := 57) (pc' := 58) rfl rfl ?_
        refine jx_next (pc := 58) (pc' := 59) rfl rfl ?_
        refine jx_callv (pc := 59) (o := 6) (rest := []) rfl ⟨by decide, by decide⟩ rfl jko_6 (Nat.le_of_ble_eq_true rfl) ?_
        refine kRd_failHere hP (by omega) rfl ?_
        refine jx_next (pc := 62) (pc' := 71) rfl rfl ?_
        refine jx_next (pc := 71) (pc' := 72) rfl rfl ?_
        obtain rfl := Option.some.inj K
        exact jx_iret (pc := 72) rfl HQ
  · replace K := (if_neg hc1).symm.trans K
    refine jx_next (pc := 13) (pc' := 14) rfl rfl ?_
    refine jx_next (pc := 14) (pc' := 15) rfl rfl ?_
    refine jx_callv (pc := 15) (o := 6) (rest := []) rfl ⟨by decide, by decide⟩ rfl jko_6 (Nat.le_of_ble_eq_true rfl) ?_
    refine kRd_failHere hP (by omega) rfl ?_
    refine jx_next (pc := 18) (pc' := 71) rfl rfl ?_
    refine jx_next (pc := 71) (pc' := 72) rfl rfl ?_
    obtain rfl := Option.some.inj K
    exact jx_iret (pc := 72) rfl HQ
noncomputable def fPn_guestNamed_l2_b (o : Nat) (v1 : Int32) (v2 : Int32) (h : jH) : Option ((Int32) ⊕ ((Int32) ⊕ (Unit))) :=
  (if v2 < (h.1 o 0) then
  (if v2 < 8 then
  (if jin v2 8 then
  (if (h.1 (o + 1) v2.toNatClampNeg) = v1 then
  some (.inr (.inl v2))
  else
  some (.inl (v2 + 1)))
  else none)
  else
  some (.inr (.inr ())))
  else
  some (.inr (.inr ())))
noncomputable def fPn_guestNamed_l2 (o : Nat) (v1 : Int32) (h : jH) : Int32 → Option ((Int32) ⊕ ((Int32) ⊕ (Unit))) :=
  fun (s : Int32) => fPn_guestNamed_l2_b o v1 s h
theorem kPn_guestNamed_l2_b {X : jX} {dd : Nat} {p d : Nat} {q : Nat → Nat} {Q : Option Value → jS → Prop} {o : Nat} {v1 : Int32} {v2 : Int32} {h : jH} (hP : jOK p d q) (ho : jcl 176 o = 10) (hd : 0 ≤ dd) {z : (Int32) ⊕ ((Int32) ⊕ (Unit))} (K : fPn_guestNamed_l2_b o v1 v2 h = some z) (HL : ∀ s : Int32, z = .inl s → jEx X dd jc_48 2 [some (.ref o), some (.int v1), some (.int s)] [] (176, jRf p d q, h) Q) (HE0 : ∀ x : Int32, z = .inr (.inl x) → jEx X dd jc_48 26 [none, none, some (.int x)] [] (176, jRf p d q, h) Q) (HE1 : ∀ x : Unit, z = .inr (.inr x) → jEx X dd jc_48 34 [none, none, none] [] (176, jRf p d q, h) Q) :
    jEx X dd jc_48 2 [some (.ref o), some (.int v1), some (.int v2)] [] (176, jRf p d q, h) Q := by
  unfold fPn_guestNamed_l2_b at K
  refine jx_next (pc := 2) (pc' := 3) rfl rfl ?_
  refine jx_next (pc := 3) (pc' := 4) rfl rfl ?_
  refine jx_geti (pc := 4) rfl ho ?_
  refine jx_icge (pc := 7) rfl (fun hc1 => ?_) (fun hc1 => ?_)
  · replace K := (if_pos hc1).symm.trans K
    refine jx_next (pc := 10) (pc' := 11) rfl rfl ?_
    refine jx_next (pc := 11) (pc' := 13) rfl rfl ?_
    refine jx_icge (pc := 13) rfl (fun hc2 => ?_) (fun hc2 => ?_)
    · replace K := (if_pos hc2).symm.trans K
      refine jx_next (pc := 16) (pc' := 17) rfl rfl ?_
      refine jx_getr2 (pc := 17) rfl ho (jrm_10_10 ho) ?_
      refine jx_next (pc := 20) (pc' := 21) rfl rfl ?_
      obtain ⟨hg3, K⟩ := jguard K
      refine jx_iald2 (pc := 21) rfl (jkm_10_10 ho) (jnm_10_10 ho) hg3 ?_
      refine jx_next (pc := 22) (pc' := 23) rfl rfl ?_
      refine jx_icne (pc := 23) rfl (fun hc4 => ?_) (fun hc4 => ?_)
      · replace K := (if_pos hc4).symm.trans K
        obtain rfl := Option.some.inj K
        refine jx_le (pl' := [none, none, some (.int v2)]) (jle_n (jle_n (jle_v jle_nil))) ?_
        exact HE0 _ rfl
      · replace K := (if_neg hc4).symm.trans K
        refine jx_inc (pc := 28) (x := v2) (p2 := [some (.ref o), some (.int v1), some (.int (v2 + 1))]) rfl rfl (jlt rfl) rfl ?_
        refine jx_next (pc := 31) (pc' := 2) rfl rfl ?_
        obtain rfl := Option.some.inj K
        refine jx_le (pl' := [some (.ref o), some (.int v1), some (.int (v2 + 1))]) (jle_v (jle_v (jle_v jle_nil))) ?_
        exact HL (v2 + 1) rfl
    · replace K := (if_neg hc2).symm.trans K
      obtain rfl := Option.some.inj K
      refine jx_le (pl' := [none, none, none]) (jle_n (jle_n (jle_n jle_nil))) ?_
      exact HE1 _ rfl
  · replace K := (if_neg hc1).symm.trans K
    obtain rfl := Option.some.inj K
    refine jx_le (pl' := [none, none, none]) (jle_n (jle_n (jle_n jle_nil))) ?_
    exact HE1 _ rfl
theorem kPn_guestNamed_l2_w {X : jX} {dd : Nat} {p d : Nat} {q : Nat → Nat} {Q : Option Value → jS → Prop} {o : Nat} {v1 : Int32} {h : jH} (hP : jOK p d q) (ho : jcl 176 o = 10) (hd : 0 ≤ dd) {s : Int32} {x : (Int32) ⊕ (Unit)} (K : jlim (fPn_guestNamed_l2 o v1 h) s = some x) (HE0 : ∀ x0 : Int32, x = .inl x0 → jEx X dd jc_48 26 [none, none, some (.int x0)] [] (176, jRf p d q, h) Q) (HE1 : ∀ x0 : Unit, x = .inr x0 → jEx X dd jc_48 34 [none, none, none] [] (176, jRf p d q, h) Q) :
    jEx X dd jc_48 2 [some (.ref o), some (.int v1), some (.int s)] [] (176, jRf p d q, h) Q := by
  refine jlim_ok (G := fun s : Int32 => jEx X dd jc_48 2 [some (.ref o), some (.int v1), some (.int s)] [] (176, jRf p d q, h) Q) (GX := fun x : (Int32) ⊕ (Unit) => (∀ x0 : Int32, x = .inl x0 → jEx X dd jc_48 26 [none, none, some (.int x0)] [] (176, jRf p d q, h) Q) ∧ (∀ x0 : Unit, x = .inr x0 → jEx X dd jc_48 34 [none, none, none] [] (176, jRf p d q, h) Q)) (fun s z hz HL HE => ?_) K ⟨HE0, HE1⟩
  exact kPn_guestNamed_l2_b hP ho hd hz HL (fun x hx => (HE _ hx).1 x rfl) (fun x hx => (HE _ hx).2 x rfl)
/-- AndGuest$Plan.guestNamed(I)I -/
noncomputable def fPn_guestNamed (o : Nat) (v1 : Int32) (h : jH) : Option Int32 :=
  (Option.bind (jlim (fPn_guestNamed_l2  o v1 h) 0) (fun (x5 : (Int32) ⊕ (Unit)) => Sum.elim (fun (y5 : Int32) =>
  some (y5 : Int32)) (fun (y5 : Unit) =>
  some ((-1) : Int32)) x5))
theorem kPn_guestNamed {X : jX} {dd : Nat} {p d : Nat} {q : Nat → Nat} {Q : Option Value → jS → Prop} {o : Nat} {v1 : Int32} {h : jH} (hP : jOK p d q) (ho : jcl 176 o = 10) (hd : 0 ≤ dd) {z : Int32} (K : fPn_guestNamed o v1 h = some z) (HQ : Q (some (.int z)) (176, jRf p d q, h)) :
    jCa X dd 48 [.ref o, .int v1] (176, jRf p d q, h) Q := by
  unfold fPn_guestNamed at K
  refine jCa_of (es := jc_48) (pl := [some (.ref o), some (.int v1), none]) (M := jm_48) rfl rfl rfl rfl ?_
  refine jx_next (pc := 0) (pc' := 1) rfl rfl ?_
  refine jx_stin (pc := 1) (p2 := [some (.ref o), some (.int v1), some (.int 0)]) rfl (jlt rfl) rfl ?_
  refine jx_le (pl' := [some (.ref o), some (.int v1), some (.int 0)]) (jle_v (jle_v (jle_v jle_nil))) ?_
  obtain ⟨x5, hz_x5, K⟩ := Option.bind_eq_some_iff.mp K
  refine kPn_guestNamed_l2_w hP ho hd hz_x5 (fun y5 hx9 => ?_) (fun y5 hx9 => ?_)
  · subst hx9
    refine jx_next (pc := 26) (pc' := 27) rfl rfl ?_
    obtain rfl := Option.some.inj K
    exact jx_iret (pc := 27) rfl HQ
  · subst hx9
    refine jx_next (pc := 34) (pc' := 35) rfl rfl ?_
    obtain rfl := Option.some.inj K
    exact jx_iret (pc := 35) rfl HQ
noncomputable def fPr_readGuest_j16  (h : jH) : Option jH :=
  some (fRd_failHere 5 h)
theorem kPr_readGuest_j16 {X : jX} {dd : Nat} {p d : Nat} {q : Nat → Nat} {Q : Option Value → jS → Prop}  {h : jH} (hP : jOK p d q)  (hd : 3 ≤ (dd + 1)) {z : jH} (K : fPr_readGuest_j16  h = some z) (HQ : Q none (176, jRf p d q, z)) :
    jEx X (dd + 1) jc_43 16 [some (.ref 7), none, none, none] [] (176, jRf p d q, h) Q := by
  unfold fPr_readGuest_j16 at K
  refine jx_next (pc := 16) (pc' := 17) rfl rfl ?_
  refine jx_getr2 (pc := 17) rfl jko_7 jr_4_0 ?_
  refine jx_next (pc := 20) (pc' := 21) rfl rfl ?_
  refine jx_callv (pc := 21) (o := 6) (rest := []) rfl ⟨by decide, by decide⟩ rfl jko_6 (Nat.le_of_ble_eq_true rfl) ?_
  refine kRd_failHere hP (by omega) rfl ?_
  obtain rfl := Option.some.inj K
  exact jx_ret (pc := 24) rfl rfl HQ
noncomputable def fPr_readGuest_j85 (v1 : Nat) (v2 : Int32) (h : jH) : Option jH :=
  (Option.bind (fRd_wantsWord 1005 h) (fun (z11 : jH) =>
  (Option.bind (fRd_wantsNumber 10 z11) (fun (z12 : Int32 × jH) =>
  (if jin v2 8 then
  (Option.bind (fRd_wantsWord 1006 (jhI z12.2 (v1 + 2) v2.toNatClampNeg z12.1)) (fun (z14 : jH) =>
  (Option.bind (fRd_wantsNumber 99 z14) (fun (z15 : Int32 × jH) =>
  (if jin v2 8 then
  (Option.bind (fRd_wantsWord 1007 (jhI z15.2 (v1 + 3) v2.toNatClampNeg z15.1)) (fun (z17 : jH) =>
  (Option.bind (fRd_wantsNumber 3 z17) (fun (z18 : Int32 × jH) =>
  (if jin v2 8 then
  (Option.bind (fRd_wantsWord 1008 (jhI z18.2 (v1 + 4) v2.toNatClampNeg (1 + z18.1))) (fun (z20 : jH) =>
  (Option.bind (fRd_wantsNumber 99 z20) (fun (z21 : Int32 × jH) =>
  (if jin v2 8 then
  some (jhI (jhI z21.2 (v1 + 5) v2.toNatClampNeg z21.1) v1 0 (v2 + 1))
  else none)))))
  else none)))))
  else none)))))
  else none)))))
theorem kPr_readGuest_j85 {X : jX} {dd : Nat} {p d : Nat} {q : Nat → Nat} {Q : Option Value → jS → Prop} {v1 : Nat} {v2 : Int32} {h : jH} (hP : jOK p d q) (hv1 : jcl 176 v1 = 10) (hd : 3 ≤ (dd + 1)) {z : jH} (K : fPr_readGuest_j85 v1 v2 h = some z) (HQ : Q none (176, jRf p d q, z)) :
    jEx X (dd + 1) jc_43 85 [some (.ref 7), some (.ref v1), some (.int v2), none] [] (176, jRf p d q, h) Q := by
  unfold fPr_readGuest_j85 at K
  refine jx_next (pc := 85) (pc' := 86) rfl rfl ?_
  refine jx_getr2 (pc := 86) rfl jko_7 jr_4_0 ?_
  refine jx_next (pc := 89) (pc' := 92) rfl rfl ?_
  refine jx_callv (pc := 92) (o := 6) (rest := []) rfl ⟨by decide, by decide⟩ rfl jko_6 (Nat.le_of_ble_eq_true rfl) ?_
  obtain ⟨z11, hz_z11, K⟩ := Option.bind_eq_some_iff.mp K
  refine kRd_wantsWord hP (by decide) (by omega) hz_z11 ?_
  refine jx_next (pc := 95) (pc' := 96) rfl rfl ?_
  refine jx_getr2 (pc := 96) rfl hv1 (jrm_10_11 hv1) ?_
  refine jx_next (pc := 99) (pc' := 100) rfl rfl ?_
  refine jx_next (pc := 100) (pc' := 101) rfl rfl ?_
  refine jx_getr2 (pc := 101) rfl jko_7 jr_4_0 ?_
  refine jx_next (pc := 104) (pc' := 106) rfl rfl ?_
  refine jx_callv (pc := 106) (o := 6) (rest := [.int v2, .ref (v1 + 2)]) rfl ⟨by decide, by decide⟩ rfl jko_6 (Nat.le_of_ble_eq_true rfl) ?_
  obtain ⟨z12, hz_z12, K⟩ := Option.bind_eq_some_iff.mp K
  refine kRd_wantsNumber hP (by omega) hz_z12 ?_
  obtain ⟨hg13, K⟩ := jguard K
  refine jx_iast2 (pc := 109) rfl (jkm_10_11 hv1) (jnm_10_11 hv1) hg13 ?_
  refine jx_next (pc := 110) (pc' := 111) rfl rfl ?_
  refine jx_getr2 (pc := 111) rfl jko_7 jr_4_0 ?_
  refine jx_next (pc := 114) (pc' := 117) rfl rfl ?_
  refine jx_callv (pc := 117) (o := 6) (rest := []) rfl ⟨by decide, by decide⟩ rfl jko_6 (Nat.le_of_ble_eq_true rfl) ?_
  obtain ⟨z14, hz_z14, K⟩ := Option.bind_eq_some_iff.mp K
  refine kRd_wantsWord hP (by decide) (by omega) hz_z14 ?_
  refine jx_next (pc := 120) (pc' := 121) rfl rfl ?_
  refine jx_getr2 (pc := 121) rfl hv1 (jrm_10_12 hv1) ?_
  refine jx_next (pc := 124) (pc' := 125) rfl rfl ?_
  refine jx_next (pc := 125) (pc' := 126) rfl rfl ?_
  refine jx_getr2 (pc := 126) rfl jko_7 jr_4_0 ?_
  refine jx_next (pc := 129) (pc' := 131) rfl rfl ?_
  refine jx_callv (pc := 131) (o := 6) (rest := [.int v2, .ref (v1 + 3)]) rfl ⟨by decide, by decide⟩ rfl jko_6 (Nat.le_of_ble_eq_true rfl) ?_
  obtain ⟨z15, hz_z15, K⟩ := Option.bind_eq_some_iff.mp K
  refine kRd_wantsNumber hP (by omega) hz_z15 ?_
  obtain ⟨hg16, K⟩ := jguard K
  refine jx_iast2 (pc := 134) rfl (jkm_10_12 hv1) (jnm_10_12 hv1) hg16 ?_
  refine jx_next (pc := 135) (pc' := 136) rfl rfl ?_
  refine jx_getr2 (pc := 136) rfl jko_7 jr_4_0 ?_
  refine jx_next (pc := 139) (pc' := 142) rfl rfl ?_
  refine jx_callv (pc := 142) (o := 6) (rest := []) rfl ⟨by decide, by decide⟩ rfl jko_6 (Nat.le_of_ble_eq_true rfl) ?_
  obtain ⟨z17, hz_z17, K⟩ := Option.bind_eq_some_iff.mp K
  refine kRd_wantsWord hP (by decide) (by omega) hz_z17 ?_
  refine jx_next (pc := 145) (pc' := 146) rfl rfl ?_
  refine jx_getr2 (pc := 146) rfl hv1 (jrm_10_13 hv1) ?_
  refine jx_next (pc := 149) (pc' := 150) rfl rfl ?_
  refine jx_next (pc := 150) (pc' := 151) rfl rfl ?_
  refine jx_next (pc := 151) (pc' := 152) rfl rfl ?_
  refine jx_getr2 (pc := 152) rfl jko_7 jr_4_0 ?_
  refine jx_next (pc := 155) (pc' := 156) rfl rfl ?_
  refine jx_callv (pc := 156) (o := 6) (rest := [.int 1, .int v2, .ref (v1 + 4)]) rfl ⟨by decide, by decide⟩ rfl jko_6 (Nat.le_of_ble_eq_true rfl) ?_
  obtain ⟨z18, hz_z18, K⟩ := Option.bind_eq_some_iff.mp K
  refine kRd_wantsNumber hP (by omega) hz_z18 ?_
  refine jx_next (pc := 159) (pc' := 160) rfl rfl ?_
  obtain ⟨hg19, K⟩ := jguard K
  refine jx_iast2 (pc := 160) rfl (jkm_10_13 hv1) (jnm_10_13 hv1) hg19 ?_
  refine jx_next (pc := 161) (pc' := 162) rfl rfl ?_
  refine jx_getr2 (pc := 162) rfl jko_7 jr_4_0 ?_
  refine jx_next (pc := 165) (pc' := 168) rfl rfl ?_
  refine jx_callv (pc := 168) (o := 6) (rest := []) rfl ⟨by decide, by decide⟩ rfl jko_6 (Nat.le_of_ble_eq_true rfl) ?_
  obtain ⟨z20, hz_z20, K⟩ := Option.bind_eq_some_iff.mp K
  refine kRd_wantsWord hP (by decide) (by omega) hz_z20 ?_
  refine jx_next (pc := 171) (pc' := 172) rfl rfl ?_
  refine jx_getr2 (pc := 172) rfl hv1 (jrm_10_14 hv1) ?_
  refine jx_next (pc := 175) (pc' := 176) rfl rfl ?_
  refine jx_next (pc := 176) (pc' := 177) rfl rfl ?_
  refine jx_getr2 (pc := 177) rfl jko_7 jr_4_0 ?_
  refine jx_next (pc := 180) (pc' := 182) rfl rfl ?_
  refine jx_callv (pc := 182) (o := 6) (rest := [.int v2, .ref (v1 + 5)]) rfl ⟨by decide, by decide⟩ rfl jko_6 (Nat.le_of_ble_eq_true rfl) ?_
  obtain ⟨z21, hz_z21, K⟩ := Option.bind_eq_some_iff.mp K
  refine kRd_wantsNumber hP (by omega) hz_z21 ?_
  obtain ⟨hg22, K⟩ := jguard K
  refine jx_iast2 (pc := 185) rfl (jkm_10_14 hv1) (jnm_10_14 hv1) hg22 ?_
  refine jx_next (pc := 186) (pc' := 187) rfl rfl ?_
  refine jx_next (pc := 187) (pc' := 188) rfl rfl ?_
  refine jx_next (pc := 188) (pc' := 189) rfl rfl ?_
  refine jx_next (pc := 189) (pc' := 190) rfl rfl ?_
  refine jx_puti (pc := 190) rfl hv1 ?_
  obtain rfl := Option.some.inj K
  exact jx_ret (pc := 193) rfl rfl HQ
/-- AndGuest$PlanReader.readGuest(LAndGuest$Plan;)V -/
noncomputable def fPr_readGuest (v1 : Nat) (h : jH) : Option jH :=
  (if (h.1 v1 0) < 0 then
  fPr_readGuest_j16  h
  else
  (if (h.1 v1 0) < 8 then
  (Option.bind (fRd_takesWord 1004 h) (fun (z4 : Int32 × jH) =>
  (Option.bind (fRd_wantsName z4.2) (fun (z6 : Int32 × jH) =>
  (if jin (h.1 v1 0) 8 then
  (if jin (h.1 v1 0) 8 then
  (Option.bind (fPn_guestNamed v1 ((jhI z6.2 (v1 + 1) (h.1 v1 0).toNatClampNeg z6.1).1 (v1 + 1) (h.1 v1 0).toNatClampNeg) (jhI z6.2 (v1 + 1) (h.1 v1 0).toNatClampNeg z6.1)) (fun (z9 : Int32) =>
  (if z9 = (-1) then
  fPr_readGuest_j85  v1 (h.1 v1 0) (jhI z6.2 (v1 + 1) (h.1 v1 0).toNatClampNeg z6.1)
  else
  fPr_readGuest_j85  v1 (h.1 v1 0) (fRd_fail 3 (fRd_here z4.2) (jhI z6.2 (v1 + 1) (h.1 v1 0).toNatClampNeg z6.1)))))
  else none)
  else none)))))
  else
  fPr_readGuest_j16  h))
theorem kPr_readGuest {X : jX} {dd : Nat} {p d : Nat} {q : Nat → Nat} {Q : Option Value → jS → Prop} {v1 : Nat} {h : jH} (hP : jOK p d q) (hv1 : jcl 176 v1 = 10) (hd : 3 ≤ dd) {z : jH} (K : fPr_readGuest v1 h = some z) (HQ : Q none (176, jRf p d q, z)) :
    jCa X dd 43 [.ref 7, .ref v1] (176, jRf p d q, h) Q := by
  obtain ⟨dd, rfl⟩ : ∃ d9, dd = d9 + 1 := ⟨dd - 1, by omega⟩
  unfold fPr_readGuest at K
  refine jCa_of (es := jc_43) (pl := [some (.ref 7), some (.ref v1), none, none]) (M := jm_43) rfl rfl rfl rfl ?_
  refine jx_next (pc := 0) (pc' := 1) rfl rfl ?_
  refine jx_geti (pc := 1) rfl hv1 ?_
  refine jx_iflt (pc := 4) rfl (fun hc1 => ?_) (fun hc1 => ?_)
  · replace K := (if_pos hc1).symm.trans K
    refine jx_le (pl' := [some (.ref 7), none, none, none]) (jle_v (jle_n (jle_n (jle_n jle_nil)))) ?_
    exact kPr_readGuest_j16 hP  hd K HQ
  · replace K := (if_neg hc1).symm.trans K
    refine jx_next (pc := 7) (pc' := 8) rfl rfl ?_
    refine jx_geti (pc := 8) rfl hv1 ?_
    refine jx_next (pc := 11) (pc' := 13) rfl rfl ?_
    refine jx_iclt (pc := 13) rfl (fun hc3 => ?_) (fun hc3 => ?_)
    · replace K := (if_pos hc3).symm.trans K
      refine jx_next (pc := 25) (pc' := 26) rfl rfl ?_
      refine jx_geti (pc := 26) rfl hv1 ?_
      refine jx_stin (pc := 29) (p2 := [some (.ref 7), some (.ref v1), some (.int (h.1 v1 0)), none]) rfl (jlt rfl) rfl ?_
      refine jx_next (pc := 30) (pc' := 31) rfl rfl ?_
      refine jx_getr2 (pc := 31) rfl jko_7 jr_4_0 ?_
      refine jx_next (pc := 34) (pc' := 37) rfl rfl ?_
      refine jx_callv (pc := 37) (o := 6) (rest := []) rfl ⟨by decide, by decide⟩ rfl jko_6 (Nat.le_of_ble_eq_true rfl) ?_
      obtain ⟨z4, hz_z4, K⟩ := Option.bind_eq_some_iff.mp K
      refine kRd_takesWord hP (by decide) (by omega) hz_z4 ?_
      refine jx_next (pc := 40) (pc' := 41) rfl rfl ?_
      refine jx_next (pc := 41) (pc' := 42) rfl rfl ?_
      refine jx_getr2 (pc := 42) rfl jko_7 jr_4_0 ?_
      refine jx_callv (pc := 45) (o := 6) (rest := []) rfl ⟨by decide, by decide⟩ rfl jko_6 (Nat.le_of_ble_eq_true rfl) ?_
      refine kRd_here hP (by omega) rfl ?_
      refine jx_stin (pc := 48) (p2 := [some (.ref 7), some (.ref v1), some (.int (h.1 v1 0)), some (.int (fRd_here z4.2))]) rfl (jlt rfl) rfl ?_
      refine jx_next (pc := 49) (pc' := 50) rfl rfl ?_
      refine jx_getr2 (pc := 50) rfl hv1 (jrm_10_10 hv1) ?_
      refine jx_next (pc := 53) (pc' := 54) rfl rfl ?_
      refine jx_next (pc := 54) (pc' := 55) rfl rfl ?_
      refine jx_getr2 (pc := 55) rfl jko_7 jr_4_0 ?_
      refine jx_callv (pc := 58) (o := 6) (rest := [.int (h.1 v1 0), .ref (v1 + 1)]) rfl ⟨by decide, by decide⟩ rfl jko_6 (Nat.le_of_ble_eq_true rfl) ?_
      obtain ⟨z6, hz_z6, K⟩ := Option.bind_eq_some_iff.mp K
      refine kRd_wantsName hP (by omega) hz_z6 ?_
      obtain ⟨hg7, K⟩ := jguard K
      refine jx_iast2 (pc := 61) rfl (jkm_10_10 hv1) (jnm_10_10 hv1) hg7 ?_
      refine jx_next (pc := 62) (pc' := 63) rfl rfl ?_
      refine jx_next (pc := 63) (pc' := 64) rfl rfl ?_
      refine jx_getr2 (pc := 64) rfl hv1 (jrm_10_10 hv1) ?_
      refine jx_next (pc := 67) (pc' := 68) rfl rfl ?_
      obtain ⟨hg8, K⟩ := jguard K
      refine jx_iald2 (pc := 68) rfl (jkm_10_10 hv1) (jnm_10_10 hv1) hg8 ?_
      refine jx_callv (pc := 69) (o := v1) (rest := []) rfl ⟨by decide, by decide⟩ rfl hv1 (Nat.le_of_ble_eq_true rfl) ?_
      obtain ⟨z9, hz_z9, K⟩ := Option.bind_eq_some_iff.mp K
      refine kPn_guestNamed hP hv1 (by omega) hz_z9 ?_
      refine jx_next (pc := 72) (pc' := 73) rfl rfl ?_
      refine jx_iceq (pc := 73) rfl (fun hc10 => ?_) (fun hc10 => ?_)
      · replace K := (if_pos hc10).symm.trans K
        refine jx_le (pl' := [some (.ref 7), some (.ref v1), some (.int (h.1 v1 0)), none]) (jle_v (jle_v (jle_v (jle_n jle_nil)))) ?_
        exact kPr_readGuest_j85 hP hv1 hd K HQ
      · replace K := (if_neg hc10).symm.trans K
        refine jx_next (pc := 76) (pc' := 77) rfl rfl ?_
        refine jx_getr2 (pc := 77) rfl jko_7 jr_4_0 ?_
        refine jx_next (pc := 80) (pc' := 81) rfl rfl ?_
        refine jx_next (pc := 81) (pc' := 82) rfl rfl ?_
        refine jx_callv (pc := 82) (o := 6) (rest := []) rfl ⟨by decide, by decide⟩ rfl jko_6 (Nat.le_of_ble_eq_true rfl) ?_
        refine kRd_fail hP (by omega) rfl ?_
        refine jx_le (pl' := [some (.ref 7), some (.ref v1), some (.int (h.1 v1 0)), none]) (jle_v (jle_v (jle_v (jle_n jle_nil)))) ?_
        exact kPr_readGuest_j85 hP hv1 hd K HQ
    · replace K := (if_neg hc3).symm.trans K
      refine jx_le (pl' := [some (.ref 7), none, none, none]) (jle_v (jle_n (jle_n (jle_n jle_nil)))) ?_
      exact kPr_readGuest_j16 hP  hd K HQ
/-- AndGuest$PlanReader.readKnownName(LAndGuest$Plan;)I -/
noncomputable def fPr_readKnownName (v1 : Nat) (h : jH) : Option (Int32 × jH) :=
  (Option.bind (fRd_wantsName h) (fun (z2 : Int32 × jH) =>
  (Option.bind (fPn_guestNamed v1 z2.1 z2.2) (fun (z3 : Int32) =>
  (if z3 = (-1) then
  some (z3, (fRd_fail 3 (fRd_here h) z2.2))
  else
  some (z3, z2.2))))))
theorem kPr_readKnownName {X : jX} {dd : Nat} {p d : Nat} {q : Nat → Nat} {Q : Option Value → jS → Prop} {v1 : Nat} {h : jH} (hP : jOK p d q) (hv1 : jcl 176 v1 = 10) (hd : 3 ≤ dd) {z : Int32 × jH} (K : fPr_readKnownName v1 h = some z) (HQ : Q (some (.int z.1)) (176, jRf p d q, z.2)) :
    jCa X dd 50 [.ref 7, .ref v1] (176, jRf p d q, h) Q := by
  obtain ⟨dd, rfl⟩ : ∃ d9, dd = d9 + 1 := ⟨dd - 1, by omega⟩
  unfold fPr_readKnownName at K
  refine jCa_of (es := jc_50) (pl := [some (.ref 7), some (.ref v1), none, none]) (M := jm_50) rfl rfl rfl rfl ?_
  refine jx_next (pc := 0) (pc' := 1) rfl rfl ?_
  refine jx_getr2 (pc := 1) rfl jko_7 jr_4_0 ?_
  refine jx_callv (pc := 4) (o := 6) (rest := []) rfl ⟨by decide, by decide⟩ rfl jko_6 (Nat.le_of_ble_eq_true rfl) ?_
  refine kRd_here hP (by omega) rfl ?_
  refine jx_stin (pc := 7) (p2 := [some (.ref 7), some (.ref v1), some (.int (fRd_here h)), none]) rfl (jlt rfl) rfl ?_
  refine jx_next (pc := 8) (pc' := 9) rfl rfl ?_
  refine jx_next (pc := 9) (pc' := 10) rfl rfl ?_
  refine jx_getr2 (pc := 10) rfl jko_7 jr_4_0 ?_
  refine jx_callv (pc := 13) (o := 6) (rest := [.ref v1]) rfl ⟨by decide, by decide⟩ rfl jko_6 (Nat.le_of_ble_eq_true rfl) ?_
  obtain ⟨z2, hz_z2, K⟩ := Option.bind_eq_some_iff.mp K
  refine kRd_wantsName hP (by omega) hz_z2 ?_
  refine jx_callv (pc := 16) (o := v1) (rest := []) rfl ⟨by decide, by decide⟩ rfl hv1 (Nat.le_of_ble_eq_true rfl) ?_
  obtain ⟨z3, hz_z3, K⟩ := Option.bind_eq_some_iff.mp K
  refine kPn_guestNamed hP hv1 (by omega) hz_z3 ?_
  refine jx_stin (pc := 19) (p2 := [some (.ref 7), some (.ref v1), some (.int (fRd_here h)), some (.int z3)]) rfl (jlt rfl) rfl ?_
  refine jx_next (pc := 20) (pc' := 21) rfl rfl ?_
  refine jx_next (pc := 21) (pc' := 22) rfl rfl ?_
  refine jx_icne (pc := 22) rfl (fun hc4 => ?_) (fun hc4 => ?_)
  · replace K := (if_pos hc4).symm.trans K
    refine jx_next (pc := 25) (pc' := 26) rfl rfl ?_
    refine jx_getr2 (pc := 26) rfl jko_7 jr_4_0 ?_
    refine jx_next (pc := 29) (pc' := 30) rfl rfl ?_
    refine jx_next (pc := 30) (pc' := 31) rfl rfl ?_
    refine jx_callv (pc := 31) (o := 6) (rest := []) rfl ⟨by decide, by decide⟩ rfl jko_6 (Nat.le_of_ble_eq_true rfl) ?_
    refine kRd_fail hP (by omega) rfl ?_
    refine jx_next (pc := 34) (pc' := 35) rfl rfl ?_
    obtain rfl := Option.some.inj K
    exact jx_iret (pc := 35) rfl HQ
  · replace K := (if_neg hc4).symm.trans K
    refine jx_next (pc := 34) (pc' := 35) rfl rfl ?_
    obtain rfl := Option.some.inj K
    exact jx_iret (pc := 35) rfl HQ
noncomputable def fPr_readTwo_j94 (v3 : Nat) (v5 : Int32) (v7 : Int32) (h : jH) : Option jH :=
  (if jin v5 (jsh v3).2 then
  (if jin v5 (jsh v3).2 then
  some (jhI h v3 v5.toNatClampNeg ((h.1 v3 v5.toNatClampNeg) ||| (1 <<< (v7 &&& 31))))
  else none)
  else none)
theorem kPr_readTwo_j94 {X : jX} {dd : Nat} {p d : Nat} {q : Nat → Nat} {Q : Option Value → jS → Prop} {v3 : Nat} {v5 : Int32} {v7 : Int32} {h : jH} (hP : jOK p d q) (hv3 : jcl 176 v3 = 20) (hd : 4 ≤ (dd + 1)) {z : jH} (K : fPr_readTwo_j94 v3 v5 v7 h = some z) (HQ : Q none (176, jRf p d q, z)) :
    jEx X (dd + 1) jc_49 94 [none, none, none, some (.ref v3), none, some (.int v5), none, some (.int v7)] [] (176, jRf p d q, h) Q := by
  unfold fPr_readTwo_j94 at K
  refine jx_next (pc := 94) (pc' := 95) rfl rfl ?_
  refine jx_next (pc := 95) (pc' := 97) rfl rfl ?_
  refine jx_next (pc := 97) (pc' := 98) rfl rfl ?_
  obtain ⟨hg12, K⟩ := jguard K
  refine jx_iald2 (pc := 98) rfl hv3 rfl hg12 ?_
  refine jx_next (pc := 99) (pc' := 100) rfl rfl ?_
  refine jx_next (pc := 100) (pc' := 102) rfl rfl ?_
  refine jx_next (pc := 102) (pc' := 103) rfl rfl ?_
  refine jx_next (pc := 103) (pc' := 104) rfl rfl ?_
  obtain ⟨hg13, K⟩ := jguard K
  refine jx_iast2 (pc := 104) rfl hv3 rfl hg13 ?_
  obtain rfl := Option.some.inj K
  exact jx_ret (pc := 105) rfl rfl HQ
noncomputable def fPr_readTwo_j84 (v3 : Nat) (v5 : Int32) (v6 : Int32) (v7 : Int32) (h : jH) : Option jH :=
  fPr_readTwo_j94  v3 v5 v7 (fRd_fail 3 v6 h)
theorem kPr_readTwo_j84 {X : jX} {dd : Nat} {p d : Nat} {q : Nat → Nat} {Q : Option Value → jS → Prop} {v3 : Nat} {v5 : Int32} {v6 : Int32} {v7 : Int32} {h : jH} (hP : jOK p d q) (hv3 : jcl 176 v3 = 20) (hd : 4 ≤ (dd + 1)) {z : jH} (K : fPr_readTwo_j84 v3 v5 v6 v7 h = some z) (HQ : Q none (176, jRf p d q, z)) :
    jEx X (dd + 1) jc_49 84 [some (.ref 7), none, none, some (.ref v3), none, some (.int v5), some (.int v6), some (.int v7)] [] (176, jRf p d q, h) Q := by
  unfold fPr_readTwo_j84 at K
  refine jx_next (pc := 84) (pc' := 85) rfl rfl ?_
  refine jx_getr2 (pc := 85) rfl jko_7 jr_4_0 ?_
  refine jx_next (pc := 88) (pc' := 89) rfl rfl ?_
  refine jx_next (pc := 89) (pc' := 91) rfl rfl ?_
  refine jx_callv (pc := 91) (o := 6) (rest := []) rfl ⟨by decide, by decide⟩ rfl jko_6 (Nat.le_of_ble_eq_true rfl) ?_
  refine kRd_fail hP (by omega) rfl ?_
  refine jx_le (pl' := [none, none, none, some (.ref v3), none, some (.int v5), none, some (.int v7)]) (jle_n (jle_n (jle_n (jle_v (jle_n (jle_v (jle_n (jle_v jle_nil)))))))) ?_
  exact kPr_readTwo_j94 hP hv3 hd K HQ
/-- AndGuest$PlanReader.readTwo(LAndGuest$Word;LAndGuest$Plan;[IZ)V -/
noncomputable def fPr_readTwo (v1 : Nat) (v2 : Nat) (v3 : Nat) (v4 : Int32) (h : jH) : Option jH :=
  (if v4 = 0 then
  some (fRd_failHere 5 h)
  else
  (Option.bind (fRd_takesWord v1 h) (fun (z3 : Int32 × jH) =>
  (Option.bind (fPr_readKnownName v2 z3.2) (fun (z4 : Int32 × jH) =>
  (Option.bind (fPr_readKnownName v2 z4.2) (fun (z6 : Int32 × jH) =>
  (if z4.1 < 0 then
  some z6.2
  else
  (if z4.1 < (Int32.ofNat (jsh v3).2) then
  (if z6.1 < 0 then
  some z6.2
  else
  (if z4.1 = z6.1 then
  fPr_readTwo_j84  v3 z4.1 (fRd_here z4.2) z6.1 z6.2
  else
  (if jin z4.1 (jsh v3).2 then
  (if (((z6.2.1 v3 z4.1.toNatClampNeg) >>> (z6.1 &&& 31)) &&& 1) = 1 then
  fPr_readTwo_j84  v3 z4.1 (fRd_here z4.2) z6.1 z6.2
  else
  fPr_readTwo_j94  v3 z4.1 z6.1 z6.2)
  else none)))
  else
  some z6.2)))))))))
theorem kPr_readTwo {X : jX} {dd : Nat} {p d : Nat} {q : Nat → Nat} {Q : Option Value → jS → Prop} {v1 : Nat} {v2 : Nat} {v3 : Nat} {v4 : Int32} {h : jH} (hP : jOK p d q) (hv1 : jcl 176 v1 = 13) (hv2 : jcl 176 v2 = 10) (hv3 : jcl 176 v3 = 20) (hd : 4 ≤ dd) {z : jH} (K : fPr_readTwo v1 v2 v3 v4 h = some z) (HQ : Q none (176, jRf p d q, z)) :
    jCa X dd 49 [.ref 7, .ref v1, .ref v2, .ref v3, .int v4] (176, jRf p d q, h) Q := by
  obtain ⟨dd, rfl⟩ : ∃ d9, dd = d9 + 1 := ⟨dd - 1, by omega⟩
  unfold fPr_readTwo at K
  refine jCa_of (es := jc_49) (pl := [some (.ref 7), some (.ref v1), some (.ref v2), some (.ref v3), some (.int v4), none, none, none]) (M := jm_49) rfl rfl rfl rfl ?_
  refine jx_next (pc := 0) (pc' := 2) rfl rfl ?_
  refine jx_ifne (pc := 2) rfl (fun hc1 => ?_) (fun hc1 => ?_)
  · replace K := (if_pos hc1).symm.trans K
    refine jx_next (pc := 5) (pc' := 6) rfl rfl ?_
    refine jx_getr2 (pc := 6) rfl jko_7 jr_4_0 ?_
    refine jx_next (pc := 9) (pc' := 10) rfl rfl ?_
    refine jx_callv (pc := 10) (o := 6) (rest := []) rfl ⟨by decide, by decide⟩ rfl jko_6 (Nat.le_of_ble_eq_true rfl) ?_
    refine kRd_failHere hP (by omega) rfl ?_
    obtain rfl := Option.some.inj K
    exact jx_ret (pc := 13) rfl rfl HQ
  · replace K := (if_neg hc1).symm.trans K
    refine jx_next (pc := 14) (pc' := 15) rfl rfl ?_
    refine jx_getr2 (pc := 15) rfl jko_7 jr_4_0 ?_
    refine jx_next (pc := 18) (pc' := 19) rfl rfl ?_
    refine jx_callv (pc := 19) (o := 6) (rest := []) rfl ⟨by decide, by decide⟩ rfl jko_6 (Nat.le_of_ble_eq_true rfl) ?_
    obtain ⟨z3, hz_z3, K⟩ := Option.bind_eq_some_iff.mp K
    refine kRd_takesWord hP hv1 (by omega) hz_z3 ?_
    refine jx_next (pc := 22) (pc' := 23) rfl rfl ?_
    refine jx_next (pc := 23) (pc' := 24) rfl rfl ?_
    refine jx_next (pc := 24) (pc' := 25) rfl rfl ?_
    refine jx_callv (pc := 25) (o := 7) (rest := []) rfl ⟨by decide, by decide⟩ rfl jko_7 (Nat.le_of_ble_eq_true rfl) ?_
    obtain ⟨z4, hz_z4, K⟩ := Option.bind_eq_some_iff.mp K
    refine kPr_readKnownName hP hv2 (by omega) hz_z4 ?_
    refine jx_sti (pc := 28) (p2 := [some (.ref 7), some (.ref v1), some (.ref v2), some (.ref v3), some (.int v4), some (.int z4.1), none, none]) rfl (jlt rfl) rfl ?_
    refine jx_next (pc := 30) (pc' := 31) rfl rfl ?_
    refine jx_getr2 (pc := 31) rfl jko_7 jr_4_0 ?_
    refine jx_callv (pc := 34) (o := 6) (rest := []) rfl ⟨by decide, by decide⟩ rfl jko_6 (Nat.le_of_ble_eq_true rfl) ?_
    refine kRd_here hP (by omega) rfl ?_
    refine jx_sti (pc := 37) (p2 := [some (.ref 7), some (.ref v1), some (.ref v2), some (.ref v3), some (.int v4), some (.int z4.1), some (.int (fRd_here z4.2)), none]) rfl (jlt rfl) rfl ?_
    refine jx_next (pc := 39) (pc' := 40) rfl rfl ?_
    refine jx_next (pc := 40) (pc' := 41) rfl rfl ?_
    refine jx_callv (pc := 41) (o := 7) (rest := []) rfl ⟨by decide, by decide⟩ rfl jko_7 (Nat.le_of_ble_eq_true rfl) ?_
    obtain ⟨z6, hz_z6, K⟩ := Option.bind_eq_some_iff.mp K
    refine kPr_readKnownName hP hv2 (by omega) hz_z6 ?_
    refine jx_sti (pc := 44) (p2 := [some (.ref 7), some (.ref v1), some (.ref v2), some (.ref v3), some (.int v4), some (.int z4.1), some (.int (fRd_here z4.2)), some (.int z6.1)]) rfl (jlt rfl) rfl ?_
    refine jx_next (pc := 46) (pc' := 48) rfl rfl ?_
    refine jx_iflt (pc := 48) rfl (fun hc7 => ?_) (fun hc7 => ?_)
    · replace K := (if_pos hc7).symm.trans K
      obtain rfl := Option.some.inj K
      exact jx_ret (pc := 63) rfl rfl HQ
    · replace K := (if_neg hc7).symm.trans K
      refine jx_next (pc := 51) (pc' := 53) rfl rfl ?_
      refine jx_next (pc := 53) (pc' := 54) rfl rfl ?_
      refine jx_alen (pc := 54) rfl hv3 ⟨by decide, by decide⟩ ?_
      refine jx_icge (pc := 55) rfl (fun hc8 => ?_) (fun hc8 => ?_)
      · replace K := (if_pos hc8).symm.trans K
        refine jx_next (pc := 58) (pc' := 60) rfl rfl ?_
        refine jx_ifge (pc := 60) rfl (fun hc9 => ?_) (fun hc9 => ?_)
        · replace K := (if_pos hc9).symm.trans K
          obtain rfl := Option.some.inj K
          exact jx_ret (pc := 63) rfl rfl HQ
        · replace K := (if_neg hc9).symm.trans K
          refine jx_next (pc := 64) (pc' := 66) rfl rfl ?_
          refine jx_next (pc := 66) (pc' := 68) rfl rfl ?_
          refine jx_iceq (pc := 68) rfl (fun hc10 => ?_) (fun hc10 => ?_)
          · replace K := (if_pos hc10).symm.trans K
            refine jx_le (pl' := [some (.ref 7), none, none, some (.ref v3), none, some (.int z4.1), some (.int (fRd_here z4.2)), some (.int z6.1)]) (jle_v (jle_n (jle_n (jle_v (jle_n (jle_v (jle_v (jle_v jle_nil)))))))) ?_
            exact kPr_readTwo_j84 hP hv3 hd K HQ
          · replace K := (if_neg hc10).symm.trans K
            refine jx_next (pc := 71) (pc' := 72) rfl rfl ?_
            refine jx_next (pc := 72) (pc' := 74) rfl rfl ?_
            obtain ⟨hg14, K⟩ := jguard K
            refine jx_iald2 (pc := 74) rfl hv3 rfl hg14 ?_
            refine jx_next (pc := 75) (pc' := 77) rfl rfl ?_
            refine jx_next (pc := 77) (pc' := 78) rfl rfl ?_
            refine jx_next (pc := 78) (pc' := 79) rfl rfl ?_
            refine jx_next (pc := 79) (pc' := 80) rfl rfl ?_
            refine jx_next (pc := 80) (pc' := 81) rfl rfl ?_
            refine jx_icne (pc := 81) rfl (fun hc15 => ?_) (fun hc15 => ?_)
            · replace K := (if_pos hc15).symm.trans K
              refine jx_le (pl' := [some (.ref 7), none, none, some (.ref v3), none, some (.int z4.1), some (.int (fRd_here z4.2)), some (.int z6.1)]) (jle_v (jle_n (jle_n (jle_v (jle_n (jle_v (jle_v (jle_v jle_nil)))))))) ?_
              exact kPr_readTwo_j84 hP hv3 hd K HQ
            · replace K := (if_neg hc15).symm.trans K
              refine jx_le (pl' := [none, none, none, some (.ref v3), none, some (.int z4.1), none, some (.int z6.1)]) (jle_n (jle_n (jle_n (jle_v (jle_n (jle_v (jle_n (jle_v jle_nil)))))))) ?_
              exact kPr_readTwo_j94 hP hv3 hd K HQ
      · replace K := (if_neg hc8).symm.trans K
        obtain rfl := Option.some.inj K
        exact jx_ret (pc := 63) rfl rfl HQ
/-- AndGuest$Formula.isEmpty()Z -/
noncomputable def fFo_isEmpty (o : Nat) (h : jH) : Int32 :=
  (if (h.1 o 2) = 0 then
  (1 : Int32)
  else
  (0 : Int32))
theorem kFo_isEmpty {X : jX} {dd : Nat} {p d : Nat} {q : Nat → Nat} {Q : Option Value → jS → Prop} {o : Nat} {h : jH} (hP : jOK p d q) (ho : jcl 176 o = 5) (hd : 0 ≤ dd) {z : Int32} (K : fFo_isEmpty o h = z) (HQ : Q (some (.int z)) (176, jRf p d q, h)) :
    jCa X dd 52 [.ref o] (176, jRf p d q, h) Q := by
  unfold fFo_isEmpty at K
  refine jCa_of (es := jc_52) (pl := [some (.ref o)]) (M := jm_52) rfl rfl rfl rfl ?_
  refine jx_next (pc := 0) (pc' := 1) rfl rfl ?_
  refine jx_geti (pc := 1) rfl ho ?_
  refine jx_ifne (pc := 4) rfl (fun hc1 => ?_) (fun hc1 => ?_)
  · replace K := (if_pos hc1).symm.trans K
    refine jx_next (pc := 7) (pc' := 8) rfl rfl ?_
    refine jx_next (pc := 8) (pc' := 12) rfl rfl ?_
    obtain rfl := K
    exact jx_zret (pc := 12) rfl (Or.inr rfl) HQ
  · replace K := (if_neg hc1).symm.trans K
    refine jx_next (pc := 11) (pc' := 12) rfl rfl ?_
    obtain rfl := K
    exact jx_zret (pc := 12) rfl (Or.inl rfl) HQ
/-- AndGuest$Reader.failed()Z -/
noncomputable def fRd_failed  (h : jH) : Int32 :=
  (if (h.1 6 5) = 0 then
  (0 : Int32)
  else
  (1 : Int32))
theorem kRd_failed {X : jX} {dd : Nat} {p d : Nat} {q : Nat → Nat} {Q : Option Value → jS → Prop}  {h : jH} (hP : jOK p d q)  (hd : 0 ≤ dd) {z : Int32} (K : fRd_failed  h = z) (HQ : Q (some (.int z)) (176, jRf p d q, h)) :
    jCa X dd 54 [.ref 6] (176, jRf p d q, h) Q := by
  unfold fRd_failed at K
  refine jCa_of (es := jc_54) (pl := [some (.ref 6)]) (M := jm_54) rfl rfl rfl rfl ?_
  refine jx_next (pc := 0) (pc' := 1) rfl rfl ?_
  refine jx_geti (pc := 1) rfl jko_6 ?_
  refine jx_ifeq (pc := 4) rfl (fun hc1 => ?_) (fun hc1 => ?_)
  · replace K := (if_pos hc1).symm.trans K
    refine jx_next (pc := 11) (pc' := 12) rfl rfl ?_
    obtain rfl := K
    exact jx_zret (pc := 12) rfl (Or.inl rfl) HQ
  · replace K := (if_neg hc1).symm.trans K
    refine jx_next (pc := 7) (pc' := 8) rfl rfl ?_
    refine jx_next (pc := 8) (pc' := 12) rfl rfl ?_
    obtain rfl := K
    exact jx_zret (pc := 12) rfl (Or.inr rfl) HQ
/-- AndGuest$Reader.standsNumber()Z -/
noncomputable def fRd_standsNumber  (h : jH) : Int32 :=
  (if (h.1 6 3) = 2 then
  (1 : Int32)
  else
  (0 : Int32))
theorem kRd_standsNumber {X : jX} {dd : Nat} {p d : Nat} {q : Nat → Nat} {Q : Option Value → jS → Prop}  {h : jH} (hP : jOK p d q)  (hd : 0 ≤ dd) {z : Int32} (K : fRd_standsNumber  h = z) (HQ : Q (some (.int z)) (176, jRf p d q, h)) :
    jCa X dd 57 [.ref 6] (176, jRf p d q, h) Q := by
  unfold fRd_standsNumber at K
  refine jCa_of (es := jc_57) (pl := [some (.ref 6)]) (M := jm_57) rfl rfl rfl rfl ?_
  refine jx_next (pc := 0) (pc' := 1) rfl rfl ?_
  refine jx_geti (pc := 1) rfl jko_6 ?_
  refine jx_next (pc := 4) (pc' := 5) rfl rfl ?_
  refine jx_icne (pc := 5) rfl (fun hc1 => ?_) (fun hc1 => ?_)
  · replace K := (if_pos hc1).symm.trans K
    refine jx_next (pc := 8) (pc' := 9) rfl rfl ?_
    refine jx_next (pc := 9) (pc' := 13) rfl rfl ?_
    obtain rfl := K
    exact jx_zret (pc := 13) rfl (Or.inr rfl) HQ
  · replace K := (if_neg hc1).symm.trans K
    refine jx_next (pc := 12) (pc' := 13) rfl rfl ?_
    obtain rfl := K
    exact jx_zret (pc := 13) rfl (Or.inl rfl) HQ
/-- AndGuest$Formula.add(I)V -/
noncomputable def fFo_add (o : Nat) (v1 : Int32) (h : jH) : Option jH :=
  (if (h.1 o 2) < 1600 then
  (if jin (h.1 o 2) 1600 then
  some (jhI (jhI h (o + 1) (h.1 o 2).toNatClampNeg v1) o 2 (((jhI h (o + 1) (h.1 o 2).toNatClampNeg v1).1 o 2) + 1))
  else none)
  else
  some h)
theorem kFo_add {X : jX} {dd : Nat} {p d : Nat} {q : Nat → Nat} {Q : Option Value → jS → Prop} {o : Nat} {v1 : Int32} {h : jH} (hP : jOK p d q) (ho : jcl 176 o = 5) (hd : 0 ≤ dd) {z : jH} (K : fFo_add o v1 h = some z) (HQ : Q none (176, jRf p d q, z)) :
    jCa X dd 58 [.ref o, .int v1] (176, jRf p d q, h) Q := by
  unfold fFo_add at K
  refine jCa_of (es := jc_58) (pl := [some (.ref o), some (.int v1)]) (M := jm_58) rfl rfl rfl rfl ?_
  refine jx_next (pc := 0) (pc' := 1) rfl rfl ?_
  refine jx_geti (pc := 1) rfl ho ?_
  refine jx_next (pc := 4) (pc' := 5) rfl rfl ?_
  refine jx_getr2 (pc := 5) rfl ho (jrm_5_0 ho) ?_
  refine jx_alen2 (pc := 8) rfl (jkm_5_0 ho) ⟨by decide, by decide⟩ (congrArg Int32.ofNat (jnm_5_0 ho)) ?_
  refine jx_icge (pc := 9) rfl (fun hc1 => ?_) (fun hc1 => ?_)
  · replace K := (if_pos hc1).symm.trans K
    refine jx_next (pc := 12) (pc' := 13) rfl rfl ?_
    refine jx_getr2 (pc := 13) rfl ho (jrm_5_0 ho) ?_
    refine jx_next (pc := 16) (pc' := 17) rfl rfl ?_
    refine jx_geti (pc := 17) rfl ho ?_
    refine jx_next (pc := 20) (pc' := 21) rfl rfl ?_
    obtain ⟨hg2, K⟩ := jguard K
    refine jx_iast2 (pc := 21) rfl (jkm_5_0 ho) (jnm_5_0 ho) hg2 ?_
    refine jx_next (pc := 22) (pc' := 23) rfl rfl ?_
    refine jx_next (pc := 23) (pc' := 24) rfl rfl ?_
    refine jx_geti (pc := 24) rfl ho ?_
    refine jx_next (pc := 27) (pc' := 28) rfl rfl ?_
    refine jx_next (pc := 28) (pc' := 29) rfl rfl ?_
    refine jx_puti (pc := 29) rfl ho ?_
    obtain rfl := Option.some.inj K
    exact jx_ret (pc := 32) rfl rfl HQ
  · replace K := (if_neg hc1).symm.trans K
    obtain rfl := Option.some.inj K
    exact jx_ret (pc := 32) rfl rfl HQ
/-- AndGuest$Formula.opens(LAndGuest$Reader;I)Z -/
noncomputable def fFo_opens (v1 : Int32) (h : jH) : Int32 × jH :=
  (if v1 < 6 then
  (1, h)
  else
  (0, (fRd_failHere 4 h)))
theorem kFo_opens {X : jX} {dd : Nat} {p d : Nat} {q : Nat → Nat} {Q : Option Value → jS → Prop} {v1 : Int32} {h : jH} (hP : jOK p d q)  (hd : 2 ≤ dd) {z : Int32 × jH} (K : fFo_opens v1 h = z) (HQ : Q (some (.int z.1)) (176, jRf p d q, z.2)) :
    jCa X dd 59 [.ref 6, .int v1] (176, jRf p d q, h) Q := by
  obtain ⟨dd, rfl⟩ : ∃ d9, dd = d9 + 1 := ⟨dd - 1, by omega⟩
  unfold fFo_opens at K
  refine jCa_of (es := jc_59) (pl := [some (.ref 6), some (.int v1)]) (M := jm_59) rfl rfl rfl rfl ?_
  refine jx_next (pc := 0) (pc' := 1) rfl rfl ?_
  refine jx_next (pc := 1) (pc' := 3) rfl rfl ?_
  refine jx_iclt (pc := 3) rfl (fun hc1 => ?_) (fun hc1 => ?_)
  · replace K := (if_pos hc1).symm.trans K
    refine jx_next (pc := 13) (pc' := 14) rfl rfl ?_
    obtain rfl := K
    exact jx_zret (pc := 14) rfl (Or.inr rfl) HQ
  · replace K := (if_neg hc1).symm.trans K
    refine jx_next (pc := 6) (pc' := 7) rfl rfl ?_
    refine jx_next (pc := 7) (pc' := 8) rfl rfl ?_
    refine jx_callv (pc := 8) (o := 6) (rest := []) rfl ⟨by decide, by decide⟩ rfl jko_6 (Nat.le_of_ble_eq_true rfl) ?_
    refine kRd_failHere hP (by omega) rfl ?_
    refine jx_next (pc := 11) (pc' := 12) rfl rfl ?_
    obtain rfl := K
    exact jx_zret (pc := 12) rfl (Or.inl rfl) HQ
/-- AndGuest$Reader.takesSign(C)Z -/
noncomputable def fRd_takesSign (v1 : Int32) (h : jH) : Option (Int32 × jH) :=
  (if (fRd_standsSign v1 h) = 0 then
  (if (fRd_standsSign v1 h) = 0 ∨ (fRd_standsSign v1 h) = 1 then some ((fRd_standsSign v1 h), h) else none)
  else
  (Option.bind (fRd_step h) (fun (z3 : jH) =>
  (if (fRd_standsSign v1 h) = 0 ∨ (fRd_standsSign v1 h) = 1 then some ((fRd_standsSign v1 h), z3) else none))))
theorem kRd_takesSign {X : jX} {dd : Nat} {p d : Nat} {q : Nat → Nat} {Q : Option Value → jS → Prop} {v1 : Int32} {h : jH} (hP : jOK p d q)  (hd : 2 ≤ dd) {z : Int32 × jH} (K : fRd_takesSign v1 h = some z) (HQ : Q (some (.int z.1)) (176, jRf p d q, z.2)) :
    jCa X dd 60 [.ref 6, .int v1] (176, jRf p d q, h) Q := by
  obtain ⟨dd, rfl⟩ : ∃ d9, dd = d9 + 1 := ⟨dd - 1, by omega⟩
  unfold fRd_takesSign at K
  refine jCa_of (es := jc_60) (pl := [some (.ref 6), some (.int v1), none]) (M := jm_60) rfl rfl rfl rfl ?_
  refine jx_next (pc := 0) (pc' := 1) rfl rfl ?_
  refine jx_next (pc := 1) (pc' := 2) rfl rfl ?_
  refine jx_callv (pc := 2) (o := 6) (rest := []) rfl ⟨by decide, by decide⟩ rfl jko_6 (Nat.le_of_ble_eq_true rfl) ?_
  refine kRd_standsSign hP (by omega) rfl ?_
  refine jx_stin (pc := 5) (p2 := [some (.ref 6), some (.int v1), some (.int (fRd_standsSign v1 h))]) rfl (jlt rfl) rfl ?_
  refine jx_next (pc := 6) (pc' := 7) rfl rfl ?_
  refine jx_ifeq (pc := 7) rfl (fun hc2 => ?_) (fun hc2 => ?_)
  · replace K := (if_pos hc2).symm.trans K
    refine jx_next (pc := 14) (pc' := 15) rfl rfl ?_
    obtain ⟨hg, K⟩ := jguard K
    obtain rfl := Option.some.inj K
    exact jx_zret (pc := 15) rfl hg HQ
  · replace K := (if_neg hc2).symm.trans K
    refine jx_next (pc := 10) (pc' := 11) rfl rfl ?_
    refine jx_callv (pc := 11) (o := 6) (rest := []) rfl ⟨by decide, by decide⟩ rfl jko_6 (Nat.le_of_ble_eq_true rfl) ?_
    obtain ⟨z3, hz_z3, K⟩ := Option.bind_eq_some_iff.mp K
    refine kRd_step hP (by omega) hz_z3 ?_
    refine jx_next (pc := 14) (pc' := 15) rfl rfl ?_
    obtain ⟨hg, K⟩ := jguard K
    obtain rfl := Option.some.inj K
    exact jx_zret (pc := 15) rfl hg HQ
noncomputable def fFo_factThatStands_j87 (o : Nat) (h : jH) : Int32 :=
  (if (h.1 o 3) = 0 then
  ((-1) : Int32)
  else
  (if (fRd_standsWord 1005 h) = 0 then
  ((-1) : Int32)
  else
  (2 : Int32)))
theorem kFo_factThatStands_j87 {X : jX} {dd : Nat} {p d : Nat} {q : Nat → Nat} {Q : Option Value → jS → Prop} {o : Nat} {h : jH} (hP : jOK p d q) (ho : jcl 176 o = 5) (hd : 1 ≤ (dd + 1)) {z : Int32} (K : fFo_factThatStands_j87 o h = z) (HQ : Q (some (.int z)) (176, jRf p d q, h)) :
    jEx X (dd + 1) jc_62 87 [some (.ref o), some (.ref 6)] [] (176, jRf p d q, h) Q := by
  unfold fFo_factThatStands_j87 at K
  refine jx_next (pc := 87) (pc' := 88) rfl rfl ?_
  refine jx_getz (pc := 88) rfl ho ?_
  refine jx_ifeq (pc := 91) rfl (fun hc11 => ?_) (fun hc11 => ?_)
  · replace K := (if_pos hc11).symm.trans K
    refine jx_next (pc := 106) (pc' := 107) rfl rfl ?_
    obtain rfl := K
    exact jx_iret (pc := 107) rfl HQ
  · replace K := (if_neg hc11).symm.trans K
    refine jx_next (pc := 94) (pc' := 95) rfl rfl ?_
    refine jx_next (pc := 95) (pc' := 98) rfl rfl ?_
    refine jx_callv (pc := 98) (o := 6) (rest := []) rfl ⟨by decide, by decide⟩ rfl jko_6 (Nat.le_of_ble_eq_true rfl) ?_
    refine kRd_standsWord hP (by decide) (by omega) rfl ?_
    refine jx_ifeq (pc := 101) rfl (fun hc13 => ?_) (fun hc13 => ?_)
    · replace K := (if_pos hc13).symm.trans K
      refine jx_next (pc := 106) (pc' := 107) rfl rfl ?_
      obtain rfl := K
      exact jx_iret (pc := 107) rfl HQ
    · replace K := (if_neg hc13).symm.trans K
      refine jx_next (pc := 104) (pc' := 105) rfl rfl ?_
      obtain rfl := K
      exact jx_iret (pc := 105) rfl HQ
noncomputable def fFo_factThatStands_j68 (o : Nat) (h : jH) : Int32 :=
  (if (h.1 o 3) = 0 then
  fFo_factThatStands_j87  o h
  else
  (if (fRd_standsWord 1018 h) = 0 then
  fFo_factThatStands_j87  o h
  else
  (1 : Int32)))
theorem kFo_factThatStands_j68 {X : jX} {dd : Nat} {p d : Nat} {q : Nat → Nat} {Q : Option Value → jS → Prop} {o : Nat} {h : jH} (hP : jOK p d q) (ho : jcl 176 o = 5) (hd : 1 ≤ (dd + 1)) {z : Int32} (K : fFo_factThatStands_j68 o h = z) (HQ : Q (some (.int z)) (176, jRf p d q, h)) :
    jEx X (dd + 1) jc_62 68 [some (.ref o), some (.ref 6)] [] (176, jRf p d q, h) Q := by
  unfold fFo_factThatStands_j68 at K
  refine jx_next (pc := 68) (pc' := 69) rfl rfl ?_
  refine jx_getz (pc := 69) rfl ho ?_
  refine jx_ifeq (pc := 72) rfl (fun hc10 => ?_) (fun hc10 => ?_)
  · replace K := (if_pos hc10).symm.trans K
    refine jx_le (pl' := [some (.ref o), some (.ref 6)]) (jle_v (jle_v jle_nil)) ?_
    exact kFo_factThatStands_j87 hP ho hd K HQ
  · replace K := (if_neg hc10).symm.trans K
    refine jx_next (pc := 75) (pc' := 76) rfl rfl ?_
    refine jx_next (pc := 76) (pc' := 79) rfl rfl ?_
    refine jx_callv (pc := 79) (o := 6) (rest := []) rfl ⟨by decide, by decide⟩ rfl jko_6 (Nat.le_of_ble_eq_true rfl) ?_
    refine kRd_standsWord hP (by decide) (by omega) rfl ?_
    refine jx_ifeq (pc := 82) rfl (fun hc15 => ?_) (fun hc15 => ?_)
    · replace K := (if_pos hc15).symm.trans K
      refine jx_le (pl' := [some (.ref o), some (.ref 6)]) (jle_v (jle_v jle_nil)) ?_
      exact kFo_factThatStands_j87 hP ho hd K HQ
    · replace K := (if_neg hc15).symm.trans K
      refine jx_next (pc := 85) (pc' := 86) rfl rfl ?_
      obtain rfl := K
      exact jx_iret (pc := 86) rfl HQ
/-- AndGuest$Formula.factThatStands(LAndGuest$Reader;)I -/
noncomputable def fFo_factThatStands (o : Nat) (h : jH) : Int32 :=
  (if (fRd_standsWord 1015 h) = 0 then
  (if (fRd_standsWord 1008 h) = 0 then
  (if (fRd_standsWord 1006 h) = 0 then
  (if (fRd_standsWord 1016 h) = 0 then
  (if (h.1 o 3) = 0 then
  fFo_factThatStands_j68  o h
  else
  (if (fRd_standsWord 1017 h) = 0 then
  fFo_factThatStands_j68  o h
  else
  (0 : Int32)))
  else
  (5 : Int32))
  else
  (3 : Int32))
  else
  (4 : Int32))
  else
  (6 : Int32))
theorem kFo_factThatStands {X : jX} {dd : Nat} {p d : Nat} {q : Nat → Nat} {Q : Option Value → jS → Prop} {o : Nat} {h : jH} (hP : jOK p d q) (ho : jcl 176 o = 5) (hd : 1 ≤ dd) {z : Int32} (K : fFo_factThatStands o h = z) (HQ : Q (some (.int z)) (176, jRf p d q, h)) :
    jCa X dd 62 [.ref o, .ref 6] (176, jRf p d q, h) Q := by
  obtain ⟨dd, rfl⟩ : ∃ d9, dd = d9 + 1 := ⟨dd - 1, by omega⟩
  unfold fFo_factThatStands at K
  refine jCa_of (es := jc_62) (pl := [some (.ref o), some (.ref 6)]) (M := jm_62) rfl rfl rfl rfl ?_
  refine jx_next (pc := 0) (pc' := 1) rfl rfl ?_
  refine jx_next (pc := 1) (pc' := 4) rfl rfl ?_
  refine jx_callv (pc := 4) (o := 6) (rest := []) rfl ⟨by decide, by decide⟩ rfl jko_6 (Nat.le_of_ble_eq_true rfl) ?_
  refine kRd_standsWord hP (by decide) (by omega) rfl ?_
  refine jx_ifeq (pc := 7) rfl (fun hc2 => ?_) (fun hc2 => ?_)
  · replace K := (if_pos hc2).symm.trans K
    refine jx_next (pc := 13) (pc' := 14) rfl rfl ?_
    refine jx_next (pc := 14) (pc' := 17) rfl rfl ?_
    refine jx_callv (pc := 17) (o := 6) (rest := []) rfl ⟨by decide, by decide⟩ rfl jko_6 (Nat.le_of_ble_eq_true rfl) ?_
    refine kRd_standsWord hP (by decide) (by omega) rfl ?_
    refine jx_ifeq (pc := 20) rfl (fun hc4 => ?_) (fun hc4 => ?_)
    · replace K := (if_pos hc4).symm.trans K
      refine jx_next (pc := 25) (pc' := 26) rfl rfl ?_
      refine jx_next (pc := 26) (pc' := 29) rfl rfl ?_
      refine jx_callv (pc := 29) (o := 6) (rest := []) rfl ⟨by decide, by decide⟩ rfl jko_6 (Nat.le_of_ble_eq_true rfl) ?_
      refine kRd_standsWord hP (by decide) (by omega) rfl ?_
      refine jx_ifeq (pc := 32) rfl (fun hc6 => ?_) (fun hc6 => ?_)
      · replace K := (if_pos hc6).symm.trans K
        refine jx_next (pc := 37) (pc' := 38) rfl rfl ?_
        refine jx_next (pc := 38) (pc' := 41) rfl rfl ?_
        refine jx_callv (pc := 41) (o := 6) (rest := []) rfl ⟨by decide, by decide⟩ rfl jko_6 (Nat.le_of_ble_eq_true rfl) ?_
        refine kRd_standsWord hP (by decide) (by omega) rfl ?_
        refine jx_ifeq (pc := 44) rfl (fun hc8 => ?_) (fun hc8 => ?_)
        · replace K := (if_pos hc8).symm.trans K
          refine jx_next (pc := 49) (pc' := 50) rfl rfl ?_
          refine jx_getz (pc := 50) rfl ho ?_
          refine jx_ifeq (pc := 53) rfl (fun hc9 => ?_) (fun hc9 => ?_)
          · replace K := (if_pos hc9).symm.trans K
            refine jx_le (pl' := [some (.ref o), some (.ref 6)]) (jle_v (jle_v jle_nil)) ?_
            exact kFo_factThatStands_j68 hP ho hd K HQ
          · replace K := (if_neg hc9).symm.trans K
            refine jx_next (pc := 56) (pc' := 57) rfl rfl ?_
            refine jx_next (pc := 57) (pc' := 60) rfl rfl ?_
            refine jx_callv (pc := 60) (o := 6) (rest := []) rfl ⟨by decide, by decide⟩ rfl jko_6 (Nat.le_of_ble_eq_true rfl) ?_
            refine kRd_standsWord hP (by decide) (by omega) rfl ?_
            refine jx_ifeq (pc := 63) rfl (fun hc17 => ?_) (fun hc17 => ?_)
            · replace K := (if_pos hc17).symm.trans K
              refine jx_le (pl' := [some (.ref o), some (.ref 6)]) (jle_v (jle_v jle_nil)) ?_
              exact kFo_factThatStands_j68 hP ho hd K HQ
            · replace K := (if_neg hc17).symm.trans K
              refine jx_next (pc := 66) (pc' := 67) rfl rfl ?_
              obtain rfl := K
              exact jx_iret (pc := 67) rfl HQ
        · replace K := (if_neg hc8).symm.trans K
          refine jx_next (pc := 47) (pc' := 48) rfl rfl ?_
          obtain rfl := K
          exact jx_iret (pc := 48) rfl HQ
      · replace K := (if_neg hc6).symm.trans K
        refine jx_next (pc := 35) (pc' := 36) rfl rfl ?_
        obtain rfl := K
        exact jx_iret (pc := 36) rfl HQ
    · replace K := (if_neg hc4).symm.trans K
      refine jx_next (pc := 23) (pc' := 24) rfl rfl ?_
      obtain rfl := K
      exact jx_iret (pc := 24) rfl HQ
  · replace K := (if_neg hc2).symm.trans K
    refine jx_next (pc := 10) (pc' := 12) rfl rfl ?_
    obtain rfl := K
    exact jx_iret (pc := 12) rfl HQ
noncomputable def fPn_pulledBy_l4_j36 (o : Nat) (v1 : Int32) (v2 : Int32) (v3 : Int32) (h : jH) : Option ((Int32 × Int32) ⊕ (Int32)) :=
  some (.inl (v2, v3 + 1))
theorem kPn_pulledBy_l4_j36 {X : jX} {dd : Nat} {p d : Nat} {q : Nat → Nat} {Q : Option Value → jS → Prop} {o : Nat} {v1 : Int32} {v2 : Int32} {v3 : Int32} {h : jH} (hP : jOK p d q) (ho : jcl 176 o = 10) (hd : 0 ≤ dd) {z : (Int32 × Int32) ⊕ (Int32)} (K : fPn_pulledBy_l4_j36 o v1 v2 v3 h = some z) (HL : ∀ s : Int32 × Int32, z = .inl s → jEx X dd jc_64 4 [some (.ref o), some (.int v1), some (.int s.1), some (.int s.2)] [] (176, jRf p d q, h) Q) (HE0 : ∀ x : Int32, z = .inr x → jEx X dd jc_64 42 [none, none, some (.int x), none] [] (176, jRf p d q, h) Q) :
    jEx X dd jc_64 36 [some (.ref o), some (.int v1), some (.int v2), some (.int v3)] [] (176, jRf p d q, h) Q := by
  unfold fPn_pulledBy_l4_j36 at K
  refine jx_inc (pc := 36) (x := v3) (p2 := [some (.ref o), some (.int v1), some (.int v2), some (.int (v3 + 1))]) rfl rfl (jlt rfl) rfl ?_
  refine jx_next (pc := 39) (pc' := 4) rfl rfl ?_
  obtain rfl := Option.some.inj K
  refine jx_le (pl' := [some (.ref o), some (.int v1), some (.int v2), some (.int (v3 + 1))]) (jle_v (jle_v (jle_v (jle_v jle_nil)))) ?_
  exact HL (v2, v3 + 1) rfl
noncomputable def fPn_pulledBy_l4_b (o : Nat) (v1 : Int32) (v2 : Int32) (v3 : Int32) (h : jH) : Option ((Int32 × Int32) ⊕ (Int32)) :=
  (if v3 < (h.1 o 0) then
  (if v3 < 8 then
  (if ((v1 >>> (v3 &&& 31)) &&& 1) = 1 then
  (if jin v3 8 then
  fPn_pulledBy_l4_j36  o v1 (v2 ||| (h.1 (o + 6) v3.toNatClampNeg)) v3 h
  else none)
  else
  fPn_pulledBy_l4_j36  o v1 v2 v3 h)
  else
  some (.inr v2))
  else
  some (.inr v2))
noncomputable def fPn_pulledBy_l4 (o : Nat) (v1 : Int32) (h : jH) : (Int32 × Int32) → Option ((Int32 × Int32) ⊕ (Int32)) :=
  fun (s : Int32 × Int32) => fPn_pulledBy_l4_b o v1 s.1 s.2 h
theorem kPn_pulledBy_l4_b {X : jX} {dd : Nat} {p d : Nat} {q : Nat → Nat} {Q : Option Value → jS → Prop} {o : Nat} {v1 : Int32} {v2 : Int32} {v3 : Int32} {h : jH} (hP : jOK p d q) (ho : jcl 176 o = 10) (hd : 0 ≤ dd) {z : (Int32 × Int32) ⊕ (Int32)} (K : fPn_pulledBy_l4_b o v1 v2 v3 h = some z) (HL : ∀ s : Int32 × Int32, z = .inl s → jEx X dd jc_64 4 [some (.ref o), some (.int v1), some (.int s.1), some (.int s.2)] [] (176, jRf p d q, h) Q) (HE0 : ∀ x : Int32, z = .inr x → jEx X dd jc_64 42 [none, none, some (.int x), none] [] (176, jRf p d q, h) Q) :
    jEx X dd jc_64 4 [some (.ref o), some (.int v1), some (.int v2), some (.int v3)] [] (176, jRf p d q, h) Q := by
  unfold fPn_pulledBy_l4_b at K
  refine jx_next (pc := 4) (pc' := 5) rfl rfl ?_
  refine jx_next (pc := 5) (pc' := 6) rfl rfl ?_
  refine jx_geti (pc := 6) rfl ho ?_
  refine jx_icge (pc := 9) rfl (fun hc1 => ?_) (fun hc1 => ?_)
  · replace K := (if_pos hc1).symm.trans K
    refine jx_next (pc := 12) (pc' := 13) rfl rfl ?_
    refine jx_next (pc := 13) (pc' := 15) rfl rfl ?_
    refine jx_icge (pc := 15) rfl (fun hc2 => ?_) (fun hc2 => ?_)
    · replace K := (if_pos hc2).symm.trans K
      refine jx_next (pc := 18) (pc' := 19) rfl rfl ?_
      refine jx_next (pc := 19) (pc' := 20) rfl rfl ?_
      refine jx_next (pc := 20) (pc' := 21) rfl rfl ?_
      refine jx_next (pc := 21) (pc' := 22) rfl rfl ?_
      refine jx_next (pc := 22) (pc' := 23) rfl rfl ?_
      refine jx_next (pc := 23) (pc' := 24) rfl rfl ?_
      refine jx_icne (pc := 24) rfl (fun hc3 => ?_) (fun hc3 => ?_)
      · replace K := (if_pos hc3).symm.trans K
        refine jx_next (pc := 27) (pc' := 28) rfl rfl ?_
        refine jx_next (pc := 28) (pc' := 29) rfl rfl ?_
        refine jx_getr2 (pc := 29) rfl ho (jrm_10_15 ho) ?_
        refine jx_next (pc := 32) (pc' := 33) rfl rfl ?_
        obtain ⟨hg4, K⟩ := jguard K
        refine jx_iald2 (pc := 33) rfl (jkm_10_15 ho) (jnm_10_15 ho) hg4 ?_
        refine jx_next (pc := 34) (pc' := 35) rfl rfl ?_
        refine jx_stin (pc := 35) (p2 := [some (.ref o), some (.int v1), some (.int (v2 ||| (h.1 (o + 6) v3.toNatClampNeg))), some (.int v3)]) rfl (jlt rfl) rfl ?_
        refine jx_le (pl' := [some (.ref o), some (.int v1), some (.int (v2 ||| (h.1 (o + 6) v3.toNatClampNeg))), some (.int v3)]) (jle_v (jle_v (jle_v (jle_v jle_nil)))) ?_
        exact kPn_pulledBy_l4_j36 hP ho hd K HL HE0
      · replace K := (if_neg hc3).symm.trans K
        refine jx_le (pl' := [some (.ref o), some (.int v1), some (.int v2), some (.int v3)]) (jle_v (jle_v (jle_v (jle_v jle_nil)))) ?_
        exact kPn_pulledBy_l4_j36 hP ho hd K HL HE0
    · replace K := (if_neg hc2).symm.trans K
      obtain rfl := Option.some.inj K
      refine jx_le (pl' := [none, none, some (.int v2), none]) (jle_n (jle_n (jle_v (jle_n jle_nil)))) ?_
      exact HE0 _ rfl
  · replace K := (if_neg hc1).symm.trans K
    obtain rfl := Option.some.inj K
    refine jx_le (pl' := [none, none, some (.int v2), none]) (jle_n (jle_n (jle_v (jle_n jle_nil)))) ?_
    exact HE0 _ rfl
theorem kPn_pulledBy_l4_w {X : jX} {dd : Nat} {p d : Nat} {q : Nat → Nat} {Q : Option Value → jS → Prop} {o : Nat} {v1 : Int32} {h : jH} (hP : jOK p d q) (ho : jcl 176 o = 10) (hd : 0 ≤ dd) {s : Int32 × Int32} {x : Int32} (K : jlim (fPn_pulledBy_l4 o v1 h) s = some x) (HE : jEx X dd jc_64 42 [none, none, some (.int x), none] [] (176, jRf p d q, h) Q) :
    jEx X dd jc_64 4 [some (.ref o), some (.int v1), some (.int s.1), some (.int s.2)] [] (176, jRf p d q, h) Q := by
  refine jlim_ok (G := fun s : Int32 × Int32 => jEx X dd jc_64 4 [some (.ref o), some (.int v1), some (.int s.1), some (.int s.2)] [] (176, jRf p d q, h) Q) (GX := fun x : Int32 => jEx X dd jc_64 42 [none, none, some (.int x), none] [] (176, jRf p d q, h) Q) (fun s z hz HL HE => ?_) K HE
  exact kPn_pulledBy_l4_b hP ho hd hz HL HE
/-- AndGuest$Plan.pulledBy(I)I -/
noncomputable def fPn_pulledBy (o : Nat) (v1 : Int32) (h : jH) : Option Int32 :=
  (Option.bind (jlim (fPn_pulledBy_l4  o v1 h) (0, 0)) (fun (x5 : Int32) =>
  some (x5 : Int32)))
theorem kPn_pulledBy {X : jX} {dd : Nat} {p d : Nat} {q : Nat → Nat} {Q : Option Value → jS → Prop} {o : Nat} {v1 : Int32} {h : jH} (hP : jOK p d q) (ho : jcl 176 o = 10) (hd : 0 ≤ dd) {z : Int32} (K : fPn_pulledBy o v1 h = some z) (HQ : Q (some (.int z)) (176, jRf p d q, h)) :
    jCa X dd 64 [.ref o, .int v1] (176, jRf p d q, h) Q := by
  unfold fPn_pulledBy at K
  refine jCa_of (es := jc_64) (pl := [some (.ref o), some (.int v1), none, none]) (M := jm_64) rfl rfl rfl rfl ?_
  refine jx_next (pc := 0) (pc' := 1) rfl rfl ?_
  refine jx_stin (pc := 1) (p2 := [some (.ref o), some (.int v1), some (.int 0), none]) rfl (jlt rfl) rfl ?_
  refine jx_next (pc := 2) (pc' := 3) rfl rfl ?_
  refine jx_stin (pc := 3) (p2 := [some (.ref o), some (.int v1), some (.int 0), some (.int 0)]) rfl (jlt rfl) rfl ?_
  refine jx_le (pl' := [some (.ref o), some (.int v1), some (.int 0), some (.int 0)]) (jle_v (jle_v (jle_v (jle_v jle_nil)))) ?_
  obtain ⟨x5, hz_x5, K⟩ := Option.bind_eq_some_iff.mp K
  refine kPn_pulledBy_l4_w hP ho hd hz_x5 ?_
  refine jx_next (pc := 42) (pc' := 43) rfl rfl ?_
  obtain rfl := Option.some.inj K
  exact jx_iret (pc := 43) rfl HQ
noncomputable def fPn_findFarSets_l22_b (o : Nat) (v1 : Int32) (v2 : Int32) (v3 : Int32) (h : jH) : Option ((Int32 × Int32) ⊕ (Int32)) :=
  (if v3 < 8 then
  (Option.bind (fPn_pulledBy o v2 h) (fun (z4 : Int32) =>
  some (.inl (v2 ||| z4, v3 + 1))))
  else
  some (.inr v2))
noncomputable def fPn_findFarSets_l22 (o : Nat) (v1 : Int32) (h : jH) : (Int32 × Int32) → Option ((Int32 × Int32) ⊕ (Int32)) :=
  fun (s : Int32 × Int32) => fPn_findFarSets_l22_b o v1 s.1 s.2 h
theorem kPn_findFarSets_l22_b {X : jX} {dd : Nat} {p d : Nat} {q : Nat → Nat} {Q : Option Value → jS → Prop} {o : Nat} {v1 : Int32} {v2 : Int32} {v3 : Int32} {h : jH} (hP : jOK p d q) (ho : jcl 176 o = 10) (hd : 1 ≤ (dd + 1)) {z : (Int32 × Int32) ⊕ (Int32)} (K : fPn_findFarSets_l22_b o v1 v2 v3 h = some z) (HL : ∀ s : Int32 × Int32, z = .inl s → jEx X (dd + 1) jc_63 22 [some (.ref o), some (.int v1), some (.int s.1), some (.int s.2)] [] (176, jRf p d q, h) Q) (HE0 : ∀ x : Int32, z = .inr x → jEx X (dd + 1) jc_63 42 [some (.ref o), some (.int v1), some (.int x), none] [] (176, jRf p d q, h) Q) :
    jEx X (dd + 1) jc_63 22 [some (.ref o), some (.int v1), some (.int v2), some (.int v3)] [] (176, jRf p d q, h) Q := by
  unfold fPn_findFarSets_l22_b at K
  refine jx_next (pc := 22) (pc' := 23) rfl rfl ?_
  refine jx_next (pc := 23) (pc' := 25) rfl rfl ?_
  refine jx_icge (pc := 25) rfl (fun hc3 => ?_) (fun hc3 => ?_)
  · replace K := (if_pos hc3).symm.trans K
    refine jx_next (pc := 28) (pc' := 29) rfl rfl ?_
    refine jx_next (pc := 29) (pc' := 30) rfl rfl ?_
    refine jx_next (pc := 30) (pc' := 31) rfl rfl ?_
    refine jx_callv (pc := 31) (o := o) (rest := [.int v2]) rfl ⟨by decide, by decide⟩ rfl ho (Nat.le_of_ble_eq_true rfl) ?_
    obtain ⟨z4, hz_z4, K⟩ := Option.bind_eq_some_iff.mp K
    refine kPn_pulledBy hP ho (by omega) hz_z4 ?_
    refine jx_next (pc := 34) (pc' := 35) rfl rfl ?_
    refine jx_stin (pc := 35) (p2 := [some (.ref o), some (.int v1), some (.int (v2 ||| z4)), some (.int v3)]) rfl (jlt rfl) rfl ?_
    refine jx_inc (pc := 36) (x := v3) (p2 := [some (.ref o), some (.int v1), some (.int (v2 ||| z4)), some (.int (v3 + 1))]) rfl rfl (jlt rfl) rfl ?_
    refine jx_next (pc := 39) (pc' := 22) rfl rfl ?_
    obtain rfl := Option.some.inj K
    refine jx_le (pl' := [some (.ref o), some (.int v1), some (.int (v2 ||| z4)), some (.int (v3 + 1))]) (jle_v (jle_v (jle_v (jle_v jle_nil)))) ?_
    exact HL (v2 ||| z4, v3 + 1) rfl
  · replace K := (if_neg hc3).symm.trans K
    obtain rfl := Option.some.inj K
    refine jx_le (pl' := [some (.ref o), some (.int v1), some (.int v2), none]) (jle_v (jle_v (jle_v (jle_n jle_nil)))) ?_
    exact HE0 _ rfl
theorem kPn_findFarSets_l22_w {X : jX} {dd : Nat} {p d : Nat} {q : Nat → Nat} {Q : Option Value → jS → Prop} {o : Nat} {v1 : Int32} {h : jH} (hP : jOK p d q) (ho : jcl 176 o = 10) (hd : 1 ≤ (dd + 1)) {s : Int32 × Int32} {x : Int32} (K : jlim (fPn_findFarSets_l22 o v1 h) s = some x) (HE : jEx X (dd + 1) jc_63 42 [some (.ref o), some (.int v1), some (.int x), none] [] (176, jRf p d q, h) Q) :
    jEx X (dd + 1) jc_63 22 [some (.ref o), some (.int v1), some (.int s.1), some (.int s.2)] [] (176, jRf p d q, h) Q := by
  refine jlim_ok (G := fun s : Int32 × Int32 => jEx X (dd + 1) jc_63 22 [some (.ref o), some (.int v1), some (.int s.1), some (.int s.2)] [] (176, jRf p d q, h) Q) (GX := fun x : Int32 => jEx X (dd + 1) jc_63 42 [some (.ref o), some (.int v1), some (.int x), none] [] (176, jRf p d q, h) Q) (fun s z hz HL HE => ?_) K HE
  exact kPn_findFarSets_l22_b hP ho hd hz HL HE
noncomputable def fPn_findFarSets_l2_b (o : Nat) (v1 : Int32) (h : jH) : Option ((Int32 × jH) ⊕ (jH)) :=
  (if v1 < (h.1 o 0) then
  (if v1 < 8 then
  (Option.bind (jlim (fPn_findFarSets_l22  o v1 h) (1 <<< (v1 &&& 31), 0)) (fun (x5 : Int32) =>
  (if jin v1 8 then
  some (.inl (v1 + 1, jhI h (o + 8) v1.toNatClampNeg x5))
  else none)))
  else
  some (.inr h))
  else
  some (.inr h))
noncomputable def fPn_findFarSets_l2 (o : Nat) : (Int32 × jH) → Option ((Int32 × jH) ⊕ (jH)) :=
  fun (s : Int32 × jH) => fPn_findFarSets_l2_b o s.1 s.2
theorem kPn_findFarSets_l2_b {X : jX} {dd : Nat} {p d : Nat} {q : Nat → Nat} {Q : Option Value → jS → Prop} {o : Nat} {v1 : Int32} {h : jH} (hP : jOK p d q) (ho : jcl 176 o = 10) (hd : 1 ≤ (dd + 1)) {z : (Int32 × jH) ⊕ (jH)} (K : fPn_findFarSets_l2_b o v1 h = some z) (HL : ∀ s : Int32 × jH, z = .inl s → jEx X (dd + 1) jc_63 2 [some (.ref o), some (.int s.1), none, none] [] (176, jRf p d q, s.2) Q) (HE0 : ∀ x : jH, z = .inr x → jEx X (dd + 1) jc_63 55 [none, none, none, none] [] (176, jRf p d q, x) Q) :
    jEx X (dd + 1) jc_63 2 [some (.ref o), some (.int v1), none, none] [] (176, jRf p d q, h) Q := by
  unfold fPn_findFarSets_l2_b at K
  refine jx_next (pc := 2) (pc' := 3) rfl rfl ?_
  refine jx_next (pc := 3) (pc' := 4) rfl rfl ?_
  refine jx_geti (pc := 4) rfl ho ?_
  refine jx_icge (pc := 7) rfl (fun hc1 => ?_) (fun hc1 => ?_)
  · replace K := (if_pos hc1).symm.trans K
    refine jx_next (pc := 10) (pc' := 11) rfl rfl ?_
    refine jx_next (pc := 11) (pc' := 13) rfl rfl ?_
    refine jx_icge (pc := 13) rfl (fun hc2 => ?_) (fun hc2 => ?_)
    · replace K := (if_pos hc2).symm.trans K
      refine jx_next (pc := 16) (pc' := 17) rfl rfl ?_
      refine jx_next (pc := 17) (pc' := 18) rfl rfl ?_
      refine jx_next (pc := 18) (pc' := 19) rfl rfl ?_
      refine jx_stin (pc := 19) (p2 := [some (.ref o), some (.int v1), some (.int (1 <<< (v1 &&& 31))), none]) rfl (jlt rfl) rfl ?_
      refine jx_next (pc := 20) (pc' := 21) rfl rfl ?_
      refine jx_stin (pc := 21) (p2 := [some (.ref o), some (.int v1), some (.int (1 <<< (v1 &&& 31))), some (.int 0)]) rfl (jlt rfl) rfl ?_
      refine jx_le (pl' := [some (.ref o), some (.int v1), some (.int (1 <<< (v1 &&& 31))), some (.int 0)]) (jle_v (jle_v (jle_v (jle_v jle_nil)))) ?_
      obtain ⟨x5, hz_x5, K⟩ := Option.bind_eq_some_iff.mp K
      refine kPn_findFarSets_l22_w hP ho hd hz_x5 ?_
      refine jx_next (pc := 42) (pc' := 43) rfl rfl ?_
      refine jx_getr2 (pc := 43) rfl ho (jrm_10_17 ho) ?_
      refine jx_next (pc := 46) (pc' := 47) rfl rfl ?_
      refine jx_next (pc := 47) (pc' := 48) rfl rfl ?_
      obtain ⟨hg6, K⟩ := jguard K
      refine jx_iast2 (pc := 48) rfl (jkm_10_17 ho) (jnm_10_17 ho) hg6 ?_
      refine jx_inc (pc := 49) (x := v1) (p2 := [some (.ref o), some (.int (v1 + 1)), some (.int x5), none]) rfl rfl (jlt rfl) rfl ?_
      refine jx_next (pc := 52) (pc' := 2) rfl rfl ?_
      obtain rfl := Option.some.inj K
      refine jx_le (pl' := [some (.ref o), some (.int (v1 + 1)), none, none]) (jle_v (jle_v (jle_n (jle_n jle_nil)))) ?_
      exact HL (v1 + 1, jhI h (o + 8) v1.toNatClampNeg x5) rfl
    · replace K := (if_neg hc2).symm.trans K
      obtain rfl := Option.some.inj K
      refine jx_le (pl' := [none, none, none, none]) (jle_n (jle_n (jle_n (jle_n jle_nil)))) ?_
      exact HE0 _ rfl
  · replace K := (if_neg hc1).symm.trans K
    obtain rfl := Option.some.inj K
    refine jx_le (pl' := [none, none, none, none]) (jle_n (jle_n (jle_n (jle_n jle_nil)))) ?_
    exact HE0 _ rfl
theorem kPn_findFarSets_l2_w {X : jX} {dd : Nat} {p d : Nat} {q : Nat → Nat} {Q : Option Value → jS → Prop} {o : Nat} (hP : jOK p d q) (ho : jcl 176 o = 10) (hd : 1 ≤ (dd + 1)) {s : Int32 × jH} {x : jH} (K : jlim (fPn_findFarSets_l2 o) s = some x) (HE : jEx X (dd + 1) jc_63 55 [none, none, none, none] [] (176, jRf p d q, x) Q) :
    jEx X (dd + 1) jc_63 2 [some (.ref o), some (.int s.1), none, none] [] (176, jRf p d q, s.2) Q := by
  refine jlim_ok (G := fun s : Int32 × jH => jEx X (dd + 1) jc_63 2 [some (.ref o), some (.int s.1), none, none] [] (176, jRf p d q, s.2) Q) (GX := fun x : jH => jEx X (dd + 1) jc_63 55 [none, none, none, none] [] (176, jRf p d q, x) Q) (fun s z hz HL HE => ?_) K HE
  exact kPn_findFarSets_l2_b hP ho hd hz HL HE
/-- AndGuest$Plan.findFarSets()V -/
noncomputable def fPn_findFarSets (o : Nat) (h : jH) : Option jH :=
  (Option.bind (jlim (fPn_findFarSets_l2  o) (0, h)) (fun (x7 : jH) =>
  some x7))
theorem kPn_findFarSets {X : jX} {dd : Nat} {p d : Nat} {q : Nat → Nat} {Q : Option Value → jS → Prop} {o : Nat} {h : jH} (hP : jOK p d q) (ho : jcl 176 o = 10) (hd : 1 ≤ dd) {z : jH} (K : fPn_findFarSets o h = some z) (HQ : Q none (176, jRf p d q, z)) :
    jCa X dd 63 [.ref o] (176, jRf p d q, h) Q := by
  obtain ⟨dd, rfl⟩ : ∃ d9, dd = d9 + 1 := ⟨dd - 1, by omega⟩
  unfold fPn_findFarSets at K
  refine jCa_of (es := jc_63) (pl := [some (.ref o), none, none, none]) (M := jm_63) rfl rfl rfl rfl ?_
  refine jx_next (pc := 0) (pc' := 1) rfl rfl ?_
  refine jx_stin (pc := 1) (p2 := [some (.ref o), some (.int 0), none, none]) rfl (jlt rfl) rfl ?_
  refine jx_le (pl' := [some (.ref o), some (.int 0), none, none]) (jle_v (jle_v (jle_n (jle_n jle_nil)))) ?_
  obtain ⟨x7, hz_x7, K⟩ := Option.bind_eq_some_iff.mp K
  refine kPn_findFarSets_l2_w hP ho hd hz_x7 ?_
  obtain rfl := Option.some.inj K
  exact jx_ret (pc := 55) rfl rfl HQ
/-- AndGuest$Reader.firstFault()I -/
noncomputable def fRd_firstFault  (h : jH) : Int32 :=
  (h.1 6 5 : Int32)
theorem kRd_firstFault {X : jX} {dd : Nat} {p d : Nat} {q : Nat → Nat} {Q : Option Value → jS → Prop}  {h : jH} (hP : jOK p d q)  (hd : 0 ≤ dd) {z : Int32} (K : fRd_firstFault  h = z) (HQ : Q (some (.int z)) (176, jRf p d q, h)) :
    jCa X dd 66 [.ref 6] (176, jRf p d q, h) Q := by
  unfold fRd_firstFault at K
  refine jCa_of (es := jc_66) (pl := [some (.ref 6)]) (M := jm_66) rfl rfl rfl rfl ?_
  refine jx_next (pc := 0) (pc' := 1) rfl rfl ?_
  refine jx_geti (pc := 1) rfl jko_6 ?_
  obtain rfl := K
  exact jx_iret (pc := 4) rfl HQ
/-- AndGuest$Reader.firstPlace()I -/
noncomputable def fRd_firstPlace  (h : jH) : Int32 :=
  (h.1 6 6 : Int32)
theorem kRd_firstPlace {X : jX} {dd : Nat} {p d : Nat} {q : Nat → Nat} {Q : Option Value → jS → Prop}  {h : jH} (hP : jOK p d q)  (hd : 0 ≤ dd) {z : Int32} (K : fRd_firstPlace  h = z) (HQ : Q (some (.int z)) (176, jRf p d q, h)) :
    jCa X dd 67 [.ref 6] (176, jRf p d q, h) Q := by
  unfold fRd_firstPlace at K
  refine jCa_of (es := jc_67) (pl := [some (.ref 6)]) (M := jm_67) rfl rfl rfl rfl ?_
  refine jx_next (pc := 0) (pc' := 1) rfl rfl ?_
  refine jx_geti (pc := 1) rfl jko_6 ?_
  obtain rfl := K
  exact jx_iret (pc := 4) rfl HQ
/-- AndGuest.closeReading()V -/
noncomputable def fA_closeReading  (h : jH) : jH :=
  (fTp_cut 2 0 (jhI (jhI h 1 14 (fRd_firstFault h)) 1 15 (fRd_firstPlace (jhI h 1 14 (fRd_firstFault h)))))
theorem kA_closeReading {X : jX} {dd : Nat} {p d : Nat} {q : Nat → Nat} {Q : Option Value → jS → Prop}  {h : jH} (hP : jOK p d q)  (hd : 1 ≤ dd) {z : jH} (K : fA_closeReading  h = z) (HQ : Q none (176, jRf p d q, z)) :
    jCa X dd 65 [.ref 1] (176, jRf p d q, h) Q := by
  obtain ⟨dd, rfl⟩ : ∃ d9, dd = d9 + 1 := ⟨dd - 1, by omega⟩
  unfold fA_closeReading at K
  refine jCa_of (es := jc_65) (pl := [some (.ref 1)]) (M := jm_65) rfl rfl rfl rfl ?_
  refine jx_next (pc := 0) (pc' := 1) rfl rfl ?_
  refine jx_next (pc := 1) (pc' := 2) rfl rfl ?_
  refine jx_getr2 (pc := 2) rfl jko_1 jr_1_2 ?_
  refine jx_callv (pc := 5) (o := 6) (rest := [.ref 1]) rfl ⟨by decide, by decide⟩ rfl jko_6 (Nat.le_of_ble_eq_true rfl) ?_
  refine kRd_firstFault hP (by omega) rfl ?_
  refine jx_puti (pc := 8) rfl jko_1 ?_
  refine jx_next (pc := 11) (pc' := 12) rfl rfl ?_
  refine jx_next (pc := 12) (pc' := 13) rfl rfl ?_
  refine jx_getr2 (pc := 13) rfl jko_1 jr_1_2 ?_
  refine jx_callv (pc := 16) (o := 6) (rest := [.ref 1]) rfl ⟨by decide, by decide⟩ rfl jko_6 (Nat.le_of_ble_eq_true rfl) ?_
  refine kRd_firstPlace hP (by omega) rfl ?_
  refine jx_puti (pc := 19) rfl jko_1 ?_
  refine jx_next (pc := 22) (pc' := 23) rfl rfl ?_
  refine jx_getr2 (pc := 23) rfl jko_1 jr_1_0 ?_
  refine jx_next (pc := 26) (pc' := 27) rfl rfl ?_
  refine jx_callv (pc := 27) (o := 2) (rest := []) rfl ⟨by decide, by decide⟩ rfl jko_2 (Nat.le_of_ble_eq_true rfl) ?_
  refine kTp_cut hP jko_2 (by omega) rfl ?_
  obtain rfl := K
  exact jx_ret (pc := 30) rfl rfl HQ
/-- AndGuest$Party.adopt(LAndGuest$Plan;)LAndGuest$Plan; -/
noncomputable def fPy_adopt (p : Nat) (v1 : Nat) (h : jH) : Nat × Nat × jH :=
  (p, v1, h)
theorem kPy_adopt {X : jX} {dd : Nat} {p d : Nat} {q : Nat → Nat} {Q : Option Value → jS → Prop} {v1 : Nat} {h : jH} (hP : jOK p d q) (hv1 : jcl 176 v1 = 10) (hd : 0 ≤ dd) {z : Nat × Nat × jH} (K : fPy_adopt p v1 h = z) (HQ : jOK z.2.1 d q → Q (some (.ref p)) (176, jRf z.2.1 d q, z.2.2)) :
    jCa X dd 68 [.ref 79, .ref v1] (176, jRf p d q, h) Q := by
  unfold fPy_adopt at K
  refine jCa_of (es := jc_68) (pl := [some (.ref 79), some (.ref v1), none]) (M := jm_68) rfl rfl rfl rfl ?_
  refine jx_next (pc := 0) (pc' := 1) rfl rfl ?_
  refine jx_getr2 (pc := 1) rfl jko_79 jr_8_4 ?_
  refine jx_stan (pc := 4) (p2 := [some (.ref 79), some (.ref v1), some (.ref p)]) rfl (jlt rfl) rfl ?_
  refine jx_next (pc := 5) (pc' := 6) rfl rfl ?_
  refine jx_next (pc := 6) (pc' := 7) rfl rfl ?_
  refine jx_putp (pc := 7) rfl ?_
  refine jx_next (pc := 10) (pc' := 11) rfl rfl ?_
  obtain rfl := K
  exact jx_ret (pc := 11) rfl rfl (HQ (jOK_p hP hv1))
noncomputable def fSd_clear_l12_b (o : Nat) (v1 : Int32) (h : jH) : Option ((Int32 × jH) ⊕ (jH)) :=
  (if v1 < 8 then
  (if jin v1 8 then
  (if jin v1 8 then
  some (.inl (v1 + 1, jhI (jhI h (o + 1) v1.toNatClampNeg 0) (o + 2) v1.toNatClampNeg 0))
  else none)
  else none)
  else
  some (.inr h))
noncomputable def fSd_clear_l12 (o : Nat) : (Int32 × jH) → Option ((Int32 × jH) ⊕ (jH)) :=
  fun (s : Int32 × jH) => fSd_clear_l12_b o s.1 s.2
theorem kSd_clear_l12_b {X : jX} {dd : Nat} {p d : Nat} {q : Nat → Nat} {Q : Option Value → jS → Prop} {o : Nat} {v1 : Int32} {h : jH} (hP : jOK p d q) (ho : jcl 176 o = 6) (hd : 0 ≤ dd) {z : (Int32 × jH) ⊕ (jH)} (K : fSd_clear_l12_b o v1 h = some z) (HL : ∀ s : Int32 × jH, z = .inl s → jEx X dd jc_69 12 [some (.ref o), some (.int s.1)] [] (176, jRf p d q, s.2) Q) (HE0 : ∀ x : jH, z = .inr x → jEx X dd jc_69 38 [none, none] [] (176, jRf p d q, x) Q) :
    jEx X dd jc_69 12 [some (.ref o), some (.int v1)] [] (176, jRf p d q, h) Q := by
  unfold fSd_clear_l12_b at K
  refine jx_next (pc := 12) (pc' := 13) rfl rfl ?_
  refine jx_next (pc := 13) (pc' := 15) rfl rfl ?_
  refine jx_icge (pc := 15) rfl (fun hc1 => ?_) (fun hc1 => ?_)
  · replace K := (if_pos hc1).symm.trans K
    refine jx_next (pc := 18) (pc' := 19) rfl rfl ?_
    refine jx_getr2 (pc := 19) rfl ho (jrm_6_2 ho) ?_
    refine jx_next (pc := 22) (pc' := 23) rfl rfl ?_
    refine jx_next (pc := 23) (pc' := 24) rfl rfl ?_
    obtain ⟨hg2, K⟩ := jguard K
    refine jx_iast2 (pc := 24) rfl (jkm_6_2 ho) (jnm_6_2 ho) hg2 ?_
    refine jx_next (pc := 25) (pc' := 26) rfl rfl ?_
    refine jx_getr2 (pc := 26) rfl ho (jrm_6_3 ho) ?_
    refine jx_next (pc := 29) (pc' := 30) rfl rfl ?_
    refine jx_next (pc := 30) (pc' := 31) rfl rfl ?_
    obtain ⟨hg3, K⟩ := jguard K
    refine jx_iast2 (pc := 31) rfl (jkm_6_3 ho) (jnm_6_3 ho) hg3 ?_
    refine jx_inc (pc := 32) (x := v1) (p2 := [some (.ref o), some (.int (v1 + 1))]) rfl rfl (jlt rfl) rfl ?_
    refine jx_next (pc := 35) (pc' := 12) rfl rfl ?_
    obtain rfl := Option.some.inj K
    refine jx_le (pl' := [some (.ref o), some (.int (v1 + 1))]) (jle_v (jle_v jle_nil)) ?_
    exact HL (v1 + 1, jhI (jhI h (o + 1) v1.toNatClampNeg 0) (o + 2) v1.toNatClampNeg 0) rfl
  · replace K := (if_neg hc1).symm.trans K
    obtain rfl := Option.some.inj K
    refine jx_le (pl' := [none, none]) (jle_n (jle_n jle_nil)) ?_
    exact HE0 _ rfl
theorem kSd_clear_l12_w {X : jX} {dd : Nat} {p d : Nat} {q : Nat → Nat} {Q : Option Value → jS → Prop} {o : Nat} (hP : jOK p d q) (ho : jcl 176 o = 6) (hd : 0 ≤ dd) {s : Int32 × jH} {x : jH} (K : jlim (fSd_clear_l12 o) s = some x) (HE : jEx X dd jc_69 38 [none, none] [] (176, jRf p d q, x) Q) :
    jEx X dd jc_69 12 [some (.ref o), some (.int s.1)] [] (176, jRf p d q, s.2) Q := by
  refine jlim_ok (G := fun s : Int32 × jH => jEx X dd jc_69 12 [some (.ref o), some (.int s.1)] [] (176, jRf p d q, s.2) Q) (GX := fun x : jH => jEx X dd jc_69 38 [none, none] [] (176, jRf p d q, x) Q) (fun s z hz HL HE => ?_) K HE
  exact kSd_clear_l12_b hP ho hd hz HL HE
/-- AndGuest$Standing.clear()V -/
noncomputable def fSd_clear (o : Nat) (h : jH) : Option jH :=
  (Option.bind (jlim (fSd_clear_l12  o) (0, jhI (jhI h o 0 0) o 1 (-1))) (fun (x4 : jH) =>
  some x4))
theorem kSd_clear {X : jX} {dd : Nat} {p d : Nat} {q : Nat → Nat} {Q : Option Value → jS → Prop} {o : Nat} {h : jH} (hP : jOK p d q) (ho : jcl 176 o = 6) (hd : 0 ≤ dd) {z : jH} (K : fSd_clear o h = some z) (HQ : Q none (176, jRf p d q, z)) :
    jCa X dd 69 [.ref o] (176, jRf p d q, h) Q := by
  unfold fSd_clear at K
  refine jCa_of (es := jc_69) (pl := [some (.ref o), none]) (M := jm_69) rfl rfl rfl rfl ?_
  refine jx_next (pc := 0) (pc' := 1) rfl rfl ?_
  refine jx_next (pc := 1) (pc' := 2) rfl rfl ?_
  refine jx_puti (pc := 2) rfl ho ?_
  refine jx_next (pc := 5) (pc' := 6) rfl rfl ?_
  refine jx_next (pc := 6) (pc' := 7) rfl rfl ?_
  refine jx_puti (pc := 7) rfl ho ?_
  refine jx_next (pc := 10) (pc' := 11) rfl rfl ?_
  refine jx_stin (pc := 11) (p2 := [some (.ref o), some (.int 0)]) rfl (jlt rfl) rfl ?_
  refine jx_le (pl' := [some (.ref o), some (.int 0)]) (jle_v (jle_v jle_nil)) ?_
  obtain ⟨x4, hz_x4, K⟩ := Option.bind_eq_some_iff.mp K
  refine kSd_clear_l12_w hP ho hd hz_x4 ?_
  obtain rfl := Option.some.inj K
  exact jx_ret (pc := 38) rfl rfl HQ
/-- AndGuest$Past.clear()V -/
noncomputable def fPa_clear  (h : jH) : jH :=
  jhI h 17 1 0
theorem kPa_clear {X : jX} {dd : Nat} {p d : Nat} {q : Nat → Nat} {Q : Option Value → jS → Prop}  {h : jH} (hP : jOK p d q)  (hd : 0 ≤ dd) {z : jH} (K : fPa_clear  h = z) (HQ : Q none (176, jRf p d q, z)) :
    jCa X dd 70 [.ref 17] (176, jRf p d q, h) Q := by
  unfold fPa_clear at K
  refine jCa_of (es := jc_70) (pl := [some (.ref 17)]) (M := jm_70) rfl rfl rfl rfl ?_
  refine jx_next (pc := 0) (pc' := 1) rfl rfl ?_
  refine jx_next (pc := 1) (pc' := 2) rfl rfl ?_
  refine jx_puti (pc := 2) rfl jko_17 ?_
  obtain rfl := K
  exact jx_ret (pc := 5) rfl rfl HQ
/-- AndGuest.fault(I)I -/
noncomputable def fA_fault (v1 : Int32) (h : jH) : Int32 :=
  (if v1 = 0 then
  (h.1 1 14 : Int32)
  else
  (if v1 = 1 then
  (h.1 1 15 : Int32)
  else
  ((-1) : Int32)))
theorem kA_fault {X : jX} {dd : Nat} {p d : Nat} {q : Nat → Nat} {Q : Option Value → jS → Prop} {v1 : Int32} {h : jH} (hP : jOK p d q)  (hd : 0 ≤ dd) {z : Int32} (K : fA_fault v1 h = z) (HQ : Q (some (.int z)) (176, jRf p d q, h)) :
    jCa X dd 71 [.ref 1, .int v1] (176, jRf p d q, h) Q := by
  unfold fA_fault at K
  refine jCa_of (es := jc_71) (pl := [some (.ref 1), some (.int v1)]) (M := jm_71) rfl rfl rfl rfl ?_
  refine jx_next (pc := 0) (pc' := 1) rfl rfl ?_
  refine jx_lsw (pc := 1) rfl ?_
  refine jx_sw1 (fun hc2 => ?_) (fun hc2 => ?_)
  · replace K := (if_pos hc2).symm.trans K
    refine jx_next (pc := 28) (pc' := 29) rfl rfl ?_
    refine jx_geti (pc := 29) rfl jko_1 ?_
    obtain rfl := K
    exact jx_iret (pc := 32) rfl HQ
  · replace K := (if_neg hc2).symm.trans K
    refine jx_sw1 (fun hc1 => ?_) (fun hc1 => ?_)
    · replace K := (if_pos hc1).symm.trans K
      refine jx_next (pc := 33) (pc' := 34) rfl rfl ?_
      refine jx_geti (pc := 34) rfl jko_1 ?_
      obtain rfl := K
      exact jx_iret (pc := 37) rfl HQ
    · replace K := (if_neg hc1).symm.trans K
      refine jx_sw0 ?_
      refine jx_next (pc := 38) (pc' := 39) rfl rfl ?_
      obtain rfl := K
      exact jx_iret (pc := 39) rfl HQ
/-- AndGuest$Party.plan()LAndGuest$Plan; -/
noncomputable def fPy_plan (p : Nat)  (h : jH) : Nat :=
  (p : Nat)
theorem kPy_plan {X : jX} {dd : Nat} {p d : Nat} {q : Nat → Nat} {Q : Option Value → jS → Prop}  {h : jH} (hP : jOK p d q)  (hd : 0 ≤ dd) {z : Nat} (K : fPy_plan p  h = z) (HQ : Q (some (.ref p)) (176, jRf p d q, h)) :
    jCa X dd 73 [.ref 79] (176, jRf p d q, h) Q := by
  unfold fPy_plan at K
  refine jCa_of (es := jc_73) (pl := [some (.ref 79)]) (M := jm_73) rfl rfl rfl rfl ?_
  refine jx_next (pc := 0) (pc' := 1) rfl rfl ?_
  refine jx_getr2 (pc := 1) rfl jko_79 jr_8_4 ?_
  obtain rfl := K
  exact jx_ret (pc := 4) rfl rfl HQ
noncomputable def fSd_askedSet_l4_j25 (o : Nat) (v1 : Int32) (v2 : Int32) (h : jH) : Option ((Int32 × Int32) ⊕ (Int32)) :=
  some (.inl (v1, v2 + 1))
theorem kSd_askedSet_l4_j25 {X : jX} {dd : Nat} {p d : Nat} {q : Nat → Nat} {Q : Option Value → jS → Prop} {o : Nat} {v1 : Int32} {v2 : Int32} {h : jH} (hP : jOK p d q) (ho : jcl 176 o = 6) (hd : 0 ≤ dd) {z : (Int32 × Int32) ⊕ (Int32)} (K : fSd_askedSet_l4_j25 o v1 v2 h = some z) (HL : ∀ s : Int32 × Int32, z = .inl s → jEx X dd jc_74 4 [some (.ref o), some (.int s.1), some (.int s.2)] [] (176, jRf p d q, h) Q) (HE0 : ∀ x : Int32, z = .inr x → jEx X dd jc_74 31 [none, some (.int x), none] [] (176, jRf p d q, h) Q) :
    jEx X dd jc_74 25 [some (.ref o), some (.int v1), some (.int v2)] [] (176, jRf p d q, h) Q := by
  unfold fSd_askedSet_l4_j25 at K
  refine jx_inc (pc := 25) (x := v2) (p2 := [some (.ref o), some (.int v1), some (.int (v2 + 1))]) rfl rfl (jlt rfl) rfl ?_
  refine jx_next (pc := 28) (pc' := 4) rfl rfl ?_
  obtain rfl := Option.some.inj K
  refine jx_le (pl' := [some (.ref o), some (.int v1), some (.int (v2 + 1))]) (jle_v (jle_v (jle_v jle_nil))) ?_
  exact HL (v1, v2 + 1) rfl
noncomputable def fSd_askedSet_l4_b (o : Nat) (v1 : Int32) (v2 : Int32) (h : jH) : Option ((Int32 × Int32) ⊕ (Int32)) :=
  (if v2 < 8 then
  (if jin v2 8 then
  (if (h.1 (o + 1) v2.toNatClampNeg) = 0 then
  fSd_askedSet_l4_j25  o v1 v2 h
  else
  fSd_askedSet_l4_j25  o (v1 ||| (1 <<< (v2 &&& 31))) v2 h)
  else none)
  else
  some (.inr v1))
noncomputable def fSd_askedSet_l4 (o : Nat) (h : jH) : (Int32 × Int32) → Option ((Int32 × Int32) ⊕ (Int32)) :=
  fun (s : Int32 × Int32) => fSd_askedSet_l4_b o s.1 s.2 h
theorem kSd_askedSet_l4_b {X : jX} {dd : Nat} {p d : Nat} {q : Nat → Nat} {Q : Option Value → jS → Prop} {o : Nat} {v1 : Int32} {v2 : Int32} {h : jH} (hP : jOK p d q) (ho : jcl 176 o = 6) (hd : 0 ≤ dd) {z : (Int32 × Int32) ⊕ (Int32)} (K : fSd_askedSet_l4_b o v1 v2 h = some z) (HL : ∀ s : Int32 × Int32, z = .inl s → jEx X dd jc_74 4 [some (.ref o), some (.int s.1), some (.int s.2)] [] (176, jRf p d q, h) Q) (HE0 : ∀ x : Int32, z = .inr x → jEx X dd jc_74 31 [none, some (.int x), none] [] (176, jRf p d q, h) Q) :
    jEx X dd jc_74 4 [some (.ref o), some (.int v1), some (.int v2)] [] (176, jRf p d q, h) Q := by
  unfold fSd_askedSet_l4_b at K
  refine jx_next (pc := 4) (pc' := 5) rfl rfl ?_
  refine jx_next (pc := 5) (pc' := 7) rfl rfl ?_
  refine jx_icge (pc := 7) rfl (fun hc1 => ?_) (fun hc1 => ?_)
  · replace K := (if_pos hc1).symm.trans K
    refine jx_next (pc := 10) (pc' := 11) rfl rfl ?_
    refine jx_getr2 (pc := 11) rfl ho (jrm_6_2 ho) ?_
    refine jx_next (pc := 14) (pc' := 15) rfl rfl ?_
    obtain ⟨hg2, K⟩ := jguard K
    refine jx_iald2 (pc := 15) rfl (jkm_6_2 ho) (jnm_6_2 ho) hg2 ?_
    refine jx_ifeq (pc := 16) rfl (fun hc3 => ?_) (fun hc3 => ?_)
    · replace K := (if_pos hc3).symm.trans K
      refine jx_le (pl' := [some (.ref o), some (.int v1), some (.int v2)]) (jle_v (jle_v (jle_v jle_nil))) ?_
      exact kSd_askedSet_l4_j25 hP ho hd K HL HE0
    · replace K := (if_neg hc3).symm.trans K
      refine jx_next (pc := 19) (pc' := 20) rfl rfl ?_
      refine jx_next (pc := 20) (pc' := 21) rfl rfl ?_
      refine jx_next (pc := 21) (pc' := 22) rfl rfl ?_
      refine jx_next (pc := 22) (pc' := 23) rfl rfl ?_
      refine jx_next (pc := 23) (pc' := 24) rfl rfl ?_
      refine jx_stin (pc := 24) (p2 := [some (.ref o), some (.int (v1 ||| (1 <<< (v2 &&& 31)))), some (.int v2)]) rfl (jlt rfl) rfl ?_
      refine jx_le (pl' := [some (.ref o), some (.int (v1 ||| (1 <<< (v2 &&& 31)))), some (.int v2)]) (jle_v (jle_v (jle_v jle_nil))) ?_
      exact kSd_askedSet_l4_j25 hP ho hd K HL HE0
  · replace K := (if_neg hc1).symm.trans K
    obtain rfl := Option.some.inj K
    refine jx_le (pl' := [none, some (.int v1), none]) (jle_n (jle_v (jle_n jle_nil))) ?_
    exact HE0 _ rfl
theorem kSd_askedSet_l4_w {X : jX} {dd : Nat} {p d : Nat} {q : Nat → Nat} {Q : Option Value → jS → Prop} {o : Nat} {h : jH} (hP : jOK p d q) (ho : jcl 176 o = 6) (hd : 0 ≤ dd) {s : Int32 × Int32} {x : Int32} (K : jlim (fSd_askedSet_l4 o h) s = some x) (HE : jEx X dd jc_74 31 [none, some (.int x), none] [] (176, jRf p d q, h) Q) :
    jEx X dd jc_74 4 [some (.ref o), some (.int s.1), some (.int s.2)] [] (176, jRf p d q, h) Q := by
  refine jlim_ok (G := fun s : Int32 × Int32 => jEx X dd jc_74 4 [some (.ref o), some (.int s.1), some (.int s.2)] [] (176, jRf p d q, h) Q) (GX := fun x : Int32 => jEx X dd jc_74 31 [none, some (.int x), none] [] (176, jRf p d q, h) Q) (fun s z hz HL HE => ?_) K HE
  exact kSd_askedSet_l4_b hP ho hd hz HL HE
/-- AndGuest$Standing.askedSet()I -/
noncomputable def fSd_askedSet (o : Nat) (h : jH) : Option Int32 :=
  (Option.bind (jlim (fSd_askedSet_l4  o h) (0, 0)) (fun (x4 : Int32) =>
  some (x4 : Int32)))
theorem kSd_askedSet {X : jX} {dd : Nat} {p d : Nat} {q : Nat → Nat} {Q : Option Value → jS → Prop} {o : Nat} {h : jH} (hP : jOK p d q) (ho : jcl 176 o = 6) (hd : 0 ≤ dd) {z : Int32} (K : fSd_askedSet o h = some z) (HQ : Q (some (.int z)) (176, jRf p d q, h)) :
    jCa X dd 74 [.ref o] (176, jRf p d q, h) Q := by
  unfold fSd_askedSet at K
  refine jCa_of (es := jc_74) (pl := [some (.ref o), none, none]) (M := jm_74) rfl rfl rfl rfl ?_
  refine jx_next (pc := 0) (pc' := 1) rfl rfl ?_
  refine jx_stin (pc := 1) (p2 := [some (.ref o), some (.int 0), none]) rfl (jlt rfl) rfl ?_
  refine jx_next (pc := 2) (pc' := 3) rfl rfl ?_
  refine jx_stin (pc := 3) (p2 := [some (.ref o), some (.int 0), some (.int 0)]) rfl (jlt rfl) rfl ?_
  refine jx_le (pl' := [some (.ref o), some (.int 0), some (.int 0)]) (jle_v (jle_v (jle_v jle_nil))) ?_
  obtain ⟨x4, hz_x4, K⟩ := Option.bind_eq_some_iff.mp K
  refine kSd_askedSet_l4_w hP ho hd hz_x4 ?_
  refine jx_next (pc := 31) (pc' := 32) rfl rfl ?_
  obtain rfl := Option.some.inj K
  exact jx_iret (pc := 32) rfl HQ
