/-- AndGuest$Tape.size()I -/
noncomputable def fTp_size (R : jR) (o : Nat) (h : jH) : Int32 :=
  (h.1 o 1 : Int32)
theorem kTp_size {X : jX} {d : Nat} {R : jR} {Q : Option Value → jS → Prop} {o : Nat} {h : jH} (hT : jTy R) (ho : jcl 176 o = 2) (hd : 0 ≤ d) {z : Int32} (K : fTp_size R o h = z) (HQ : Q (some (.int z)) (176, R, h)) :
    jCa X d 14 [.ref o] (176, R, h) Q := by
  unfold fTp_size at K
  refine jCa_of (es := jc_14) (pl := [some (.ref o)]) (M := jm_14) rfl rfl rfl rfl ?_
  refine jx_next (pc := 0) (pc' := 1) rfl rfl ?_
  refine jx_geti (pc := 1) rfl ho ?_
  obtain rfl := K
  exact jx_iret (pc := 4) rfl HQ

/-- AndGuest$Tape.byteAt(I)I -/
noncomputable def fTp_byteAt (R : jR) (o : Nat) (v1 : Int32) (h : jH) : Option Int32 :=
  (if v1 < 0 then
  some ((-1) : Int32)
  else
  (if v1 < (h.1 o 1) then
  (if v1 < (Int32.ofNat (jsh (R o 0)).2) then
  (if jin v1 (jsh (R o 0)).2 then
  some (h.1 (R o 0) v1.toNatClampNeg : Int32)
  else none)
  else
  some ((-1) : Int32))
  else
  some ((-1) : Int32)))
theorem kTp_byteAt {X : jX} {d : Nat} {R : jR} {Q : Option Value → jS → Prop} {o : Nat} {v1 : Int32} {h : jH} (hT : jTy R) (ho : jcl 176 o = 2) (hd : 0 ≤ d) {z : Int32} (K : fTp_byteAt R o v1 h = some z) (HQ : Q (some (.int z)) (176, R, h)) :
    jCa X d 27 [.ref o, .int v1] (176, R, h) Q := by
  unfold fTp_byteAt at K
  refine jCa_of (es := jc_27) (pl := [some (.ref o), some (.int v1)]) (M := jm_27) rfl rfl rfl rfl ?_
  refine jx_next (pc := 0) (pc' := 1) rfl rfl ?_
  refine jx_iflt (pc := 1) rfl (fun hc1 => ?_) (fun hc1 => ?_)
  · replace K := (if_pos hc1).symm.trans K
    refine jx_next (pc := 30) (pc' := 31) rfl rfl ?_
    obtain rfl := Option.some.inj K
    exact jx_iret (pc := 31) rfl HQ
  · replace K := (if_neg hc1).symm.trans K
    refine jx_next (pc := 4) (pc' := 5) rfl rfl ?_
    refine jx_next (pc := 5) (pc' := 6) rfl rfl ?_
    refine jx_geti (pc := 6) rfl ho ?_
    refine jx_icge (pc := 9) rfl (fun hc2 => ?_) (fun hc2 => ?_)
    · replace K := (if_pos hc2).symm.trans K
      refine jx_next (pc := 12) (pc' := 13) rfl rfl ?_
      refine jx_next (pc := 13) (pc' := 14) rfl rfl ?_
      refine jx_getr (pc := 14) rfl ho ?_
      refine jx_alen (pc := 17) rfl (jtR hT ho (k := 0) (c := 20) rfl) ⟨by decide, by decide⟩ ?_
      refine jx_icge (pc := 18) rfl (fun hc3 => ?_) (fun hc3 => ?_)
      · replace K := (if_pos hc3).symm.trans K
        refine jx_next (pc := 21) (pc' := 22) rfl rfl ?_
        refine jx_getr (pc := 22) rfl ho ?_
        refine jx_next (pc := 25) (pc' := 26) rfl rfl ?_
        obtain ⟨hg4, K⟩ := jguard K
        refine jx_iald (pc := 26) rfl (jtR hT ho (k := 0) (c := 20) rfl) hg4 ?_
        refine jx_next (pc := 27) (pc' := 31) rfl rfl ?_
        obtain rfl := Option.some.inj K
        exact jx_iret (pc := 31) rfl HQ
      · replace K := (if_neg hc3).symm.trans K
        refine jx_next (pc := 30) (pc' := 31) rfl rfl ?_
        obtain rfl := Option.some.inj K
        exact jx_iret (pc := 31) rfl HQ
    · replace K := (if_neg hc2).symm.trans K
      refine jx_next (pc := 30) (pc' := 31) rfl rfl ?_
      obtain rfl := Option.some.inj K
      exact jx_iret (pc := 31) rfl HQ

/-- AndGuest$Tape.put(I)V -/
noncomputable def fTp_put (R : jR) (o : Nat) (v1 : Int32) (h : jH) : Option jH :=
  (if (h.1 o 1) < (Int32.ofNat (jsh (R o 0)).2) then
  (if jin (h.1 o 1) (jsh (R o 0)).2 then
  some (jhI (jhI h (R o 0) (h.1 o 1).toNatClampNeg (v1 &&& 255)) o 1 (((jhI h (R o 0) (h.1 o 1).toNatClampNeg (v1 &&& 255)).1 o 1) + 1))
  else none)
  else
  some h)
theorem kTp_put {X : jX} {d : Nat} {R : jR} {Q : Option Value → jS → Prop} {o : Nat} {v1 : Int32} {h : jH} (hT : jTy R) (ho : jcl 176 o = 2) (hd : 0 ≤ d) {z : jH} (K : fTp_put R o v1 h = some z) (HQ : Q none (176, R, z)) :
    jCa X d 18 [.ref o, .int v1] (176, R, h) Q := by
  unfold fTp_put at K
  refine jCa_of (es := jc_18) (pl := [some (.ref o), some (.int v1)]) (M := jm_18) rfl rfl rfl rfl ?_
  refine jx_next (pc := 0) (pc' := 1) rfl rfl ?_
  refine jx_geti (pc := 1) rfl ho ?_
  refine jx_next (pc := 4) (pc' := 5) rfl rfl ?_
  refine jx_getr (pc := 5) rfl ho ?_
  refine jx_alen (pc := 8) rfl (jtR hT ho (k := 0) (c := 20) rfl) ⟨by decide, by decide⟩ ?_
  refine jx_icge (pc := 9) rfl (fun hc1 => ?_) (fun hc1 => ?_)
  · replace K := (if_pos hc1).symm.trans K
    refine jx_next (pc := 12) (pc' := 13) rfl rfl ?_
    refine jx_getr (pc := 13) rfl ho ?_
    refine jx_next (pc := 16) (pc' := 17) rfl rfl ?_
    refine jx_geti (pc := 17) rfl ho ?_
    refine jx_next (pc := 20) (pc' := 21) rfl rfl ?_
    refine jx_next (pc := 21) (pc' := 24) rfl rfl ?_
    refine jx_next (pc := 24) (pc' := 25) rfl rfl ?_
    obtain ⟨hg2, K⟩ := jguard K
    refine jx_iast (pc := 25) rfl (jtR hT ho (k := 0) (c := 20) rfl) hg2 ?_
    refine jx_next (pc := 26) (pc' := 27) rfl rfl ?_
    refine jx_next (pc := 27) (pc' := 28) rfl rfl ?_
    refine jx_geti (pc := 28) rfl ho ?_
    refine jx_next (pc := 31) (pc' := 32) rfl rfl ?_
    refine jx_next (pc := 32) (pc' := 33) rfl rfl ?_
    refine jx_puti (pc := 33) rfl ho ?_
    obtain rfl := Option.some.inj K
    exact jx_ret (pc := 36) rfl rfl HQ
  · replace K := (if_neg hc1).symm.trans K
    obtain rfl := Option.some.inj K
    exact jx_ret (pc := 36) rfl rfl HQ

/-- java/lang/Math.max(II)I -/
noncomputable def fMt_max (v0 : Int32) (v1 : Int32) : Int32 :=
  (if v0 < v1 then
  (v1 : Int32)
  else
  (v0 : Int32))
theorem kMt_max {X : jX} {d : Nat} {R : jR} {Q : Option Value → jS → Prop} {v0 : Int32} {v1 : Int32} {h : jH}  (hd : 0 ≤ d) {z : Int32} (K : fMt_max v0 v1 = z) (HQ : Q (some (.int z)) (176, R, h)) :
    jCa X d 2 [.int v0, .int v1] (176, R, h) Q := by
  unfold fMt_max at K
  refine jCa_of (es := jc_2) (pl := [some (.int v0), some (.int v1)]) (M := jm_2) rfl rfl rfl rfl ?_
  refine jx_next (pc := 0) (pc' := 1) rfl rfl ?_
  refine jx_next (pc := 1) (pc' := 2) rfl rfl ?_
  refine jx_iclt (pc := 2) rfl (fun hc1 => ?_) (fun hc1 => ?_)
  · replace K := (if_pos hc1).symm.trans K
    refine jx_next (pc := 9) (pc' := 10) rfl rfl ?_
    obtain rfl := K
    exact jx_iret (pc := 10) rfl HQ
  · replace K := (if_neg hc1).symm.trans K
    refine jx_next (pc := 5) (pc' := 6) rfl rfl ?_
    refine jx_next (pc := 6) (pc' := 10) rfl rfl ?_
    obtain rfl := K
    exact jx_iret (pc := 10) rfl HQ

noncomputable def fTp_checkOf_l5_b (R : jR) (o : Nat) (v1 : Int32) (v2 : Int32) (v3 : Int32) (h : jH) : Option ((Int32 × Int32) ⊕ (Int32)) :=
  (if v3 < v1 then
  (if v3 < (h.1 o 1) then
  (Option.bind (fTp_byteAt R o v3 h) (fun (z3 : Int32) =>
  some (.inl (((3 * v2) + z3) - ((3 * v2) + z3) / 251 * 251, v3 + 1))))
  else
  some (.inr v2))
  else
  some (.inr v2))
noncomputable def fTp_checkOf_l5 (R : jR) (o : Nat) (v1 : Int32) (h : jH) : (Int32 × Int32) → Option ((Int32 × Int32) ⊕ (Int32)) :=
  fun (s : Int32 × Int32) => fTp_checkOf_l5_b R o v1 s.1 s.2 h
theorem kTp_checkOf_l5_b {X : jX} {d : Nat} {R : jR} {Q : Option Value → jS → Prop} {o : Nat} {v1 : Int32} {v2 : Int32} {v3 : Int32} {h : jH} (hT : jTy R) (ho : jcl 176 o = 2) (hd : 1 ≤ (d + 1)) {z : (Int32 × Int32) ⊕ (Int32)} (K : fTp_checkOf_l5_b R o v1 v2 v3 h = some z) (HL : ∀ s : Int32 × Int32, z = .inl s → jEx X (d + 1) jc_181 5 [some (.ref o), some (.int v1), some (.int s.1), some (.int s.2)] [] (176, R, h) Q) (HE0 : ∀ x : Int32, z = .inr x → jEx X (d + 1) jc_181 38 [none, none, some (.int x), none] [] (176, R, h) Q) :
    jEx X (d + 1) jc_181 5 [some (.ref o), some (.int v1), some (.int v2), some (.int v3)] [] (176, R, h) Q := by
  unfold fTp_checkOf_l5_b at K
  refine jx_next (pc := 5) (pc' := 6) rfl rfl ?_
  refine jx_next (pc := 6) (pc' := 7) rfl rfl ?_
  refine jx_icge (pc := 7) rfl (fun hc1 => ?_) (fun hc1 => ?_)
  · replace K := (if_pos hc1).symm.trans K
    refine jx_next (pc := 10) (pc' := 11) rfl rfl ?_
    refine jx_next (pc := 11) (pc' := 12) rfl rfl ?_
    refine jx_geti (pc := 12) rfl ho ?_
    refine jx_icge (pc := 15) rfl (fun hc2 => ?_) (fun hc2 => ?_)
    · replace K := (if_pos hc2).symm.trans K
      refine jx_next (pc := 18) (pc' := 19) rfl rfl ?_
      refine jx_next (pc := 19) (pc' := 20) rfl rfl ?_
      refine jx_next (pc := 20) (pc' := 21) rfl rfl ?_
      refine jx_next (pc := 21) (pc' := 22) rfl rfl ?_
      refine jx_next (pc := 22) (pc' := 23) rfl rfl ?_
      refine jx_callv (pc := 23) (o := o) (rest := [.int (3 * v2)]) rfl ⟨by decide, by decide⟩ rfl ho (Nat.le_of_ble_eq_true rfl) ?_
      obtain ⟨z3, hz_z3, K⟩ := Option.bind_eq_some_iff.mp K
      refine kTp_byteAt hT ho (by omega) hz_z3 ?_
      refine jx_next (pc := 26) (pc' := 27) rfl rfl ?_
      refine jx_next (pc := 27) (pc' := 30) rfl rfl ?_
      refine jx_irem (pc := 30) rfl (by decide) ?_
      refine jx_stin (pc := 31) (p2 := [some (.ref o), some (.int v1), some (.int (((3 * v2) + z3) - ((3 * v2) + z3) / 251 * 251)), some (.int v3)]) rfl (jlt rfl) rfl ?_
      refine jx_inc (pc := 32) (x := v3) (p2 := [some (.ref o), some (.int v1), some (.int (((3 * v2) + z3) - ((3 * v2) + z3) / 251 * 251)), some (.int (v3 + 1))]) rfl rfl (jlt rfl) rfl ?_
      refine jx_next (pc := 35) (pc' := 5) rfl rfl ?_
      obtain rfl := Option.some.inj K
      refine jx_le (pl' := [some (.ref o), some (.int v1), some (.int (((3 * v2) + z3) - ((3 * v2) + z3) / 251 * 251)), some (.int (v3 + 1))]) (jle_v (jle_v (jle_v (jle_v jle_nil)))) ?_
      exact HL _ rfl
    · replace K := (if_neg hc2).symm.trans K
      obtain rfl := Option.some.inj K
      refine jx_le (pl' := [none, none, some (.int v2), none]) (jle_n (jle_n (jle_v (jle_n jle_nil)))) ?_
      exact HE0 _ rfl
  · replace K := (if_neg hc1).symm.trans K
    obtain rfl := Option.some.inj K
    refine jx_le (pl' := [none, none, some (.int v2), none]) (jle_n (jle_n (jle_v (jle_n jle_nil)))) ?_
    exact HE0 _ rfl
theorem kTp_checkOf_l5_w {X : jX} {d : Nat} {R : jR} {Q : Option Value → jS → Prop} {o : Nat} {v1 : Int32} {h : jH} (hT : jTy R) (ho : jcl 176 o = 2) (hd : 1 ≤ (d + 1)) {s : Int32 × Int32} {x : Int32} (K : jlim (fTp_checkOf_l5 R o v1 h) s = some x) (HE : jEx X (d + 1) jc_181 38 [none, none, some (.int x), none] [] (176, R, h) Q) :
    jEx X (d + 1) jc_181 5 [some (.ref o), some (.int v1), some (.int s.1), some (.int s.2)] [] (176, R, h) Q := by
  refine jlim_ok (G := fun s : Int32 × Int32 => jEx X (d + 1) jc_181 5 [some (.ref o), some (.int v1), some (.int s.1), some (.int s.2)] [] (176, R, h) Q) (GX := fun x : Int32 => jEx X (d + 1) jc_181 38 [none, none, some (.int x), none] [] (176, R, h) Q) (fun s z hz HL HE => ?_) K HE
  exact kTp_checkOf_l5_b hT ho hd hz HL HE
/-- AndGuest$Tape.checkOf(I)I -/
noncomputable def fTp_checkOf (R : jR) (o : Nat) (v1 : Int32) (h : jH) : Option Int32 :=
  (Option.bind (jlim (fTp_checkOf_l5 R o v1 h) (67, 0)) (fun (x4 : Int32) =>
  some (x4 : Int32)))
theorem kTp_checkOf {X : jX} {d : Nat} {R : jR} {Q : Option Value → jS → Prop} {o : Nat} {v1 : Int32} {h : jH} (hT : jTy R) (ho : jcl 176 o = 2) (hd : 1 ≤ d) {z : Int32} (K : fTp_checkOf R o v1 h = some z) (HQ : Q (some (.int z)) (176, R, h)) :
    jCa X d 181 [.ref o, .int v1] (176, R, h) Q := by
  obtain ⟨d, rfl⟩ : ∃ d9, d = d9 + 1 := ⟨d - 1, by omega⟩
  unfold fTp_checkOf at K
  refine jCa_of (es := jc_181) (pl := [some (.ref o), some (.int v1), none, none]) (M := jm_181) rfl rfl rfl rfl ?_
  refine jx_next (pc := 0) (pc' := 2) rfl rfl ?_
  refine jx_stin (pc := 2) (p2 := [some (.ref o), some (.int v1), some (.int 67), none]) rfl (jlt rfl) rfl ?_
  refine jx_next (pc := 3) (pc' := 4) rfl rfl ?_
  refine jx_stin (pc := 4) (p2 := [some (.ref o), some (.int v1), some (.int 67), some (.int 0)]) rfl (jlt rfl) rfl ?_
  refine jx_le (pl' := [some (.ref o), some (.int v1), some (.int 67), some (.int 0)]) (jle_v (jle_v (jle_v (jle_v jle_nil)))) ?_
  obtain ⟨x4, hz_x4, K⟩ := Option.bind_eq_some_iff.mp K
  refine kTp_checkOf_l5_w hT ho hd hz_x4 ?_
  refine jx_next (pc := 38) (pc' := 39) rfl rfl ?_
  obtain rfl := Option.some.inj K
  exact jx_iret (pc := 39) rfl HQ

noncomputable def fPn_guestNamed_l2_b (R : jR) (o : Nat) (v1 : Int32) (v2 : Int32) (h : jH) : Option ((Int32) ⊕ ((Int32) ⊕ (Unit))) :=
  (if v2 < (h.1 o 0) then
  (if v2 < 8 then
  (if jin v2 (jsh (R o 10)).2 then
  (if (h.1 (R o 10) v2.toNatClampNeg) = v1 then
  some (.inr (.inl v2))
  else
  some (.inl (v2 + 1)))
  else none)
  else
  some (.inr (.inr ())))
  else
  some (.inr (.inr ())))
noncomputable def fPn_guestNamed_l2 (R : jR) (o : Nat) (v1 : Int32) (h : jH) : Int32 → Option ((Int32) ⊕ ((Int32) ⊕ (Unit))) :=
  fun (s : Int32) => fPn_guestNamed_l2_b R o v1 s h
theorem kPn_guestNamed_l2_b {X : jX} {d : Nat} {R : jR} {Q : Option Value → jS → Prop} {o : Nat} {v1 : Int32} {v2 : Int32} {h : jH} (hT : jTy R) (ho : jcl 176 o = 10) (hd : 0 ≤ d) {z : (Int32) ⊕ ((Int32) ⊕ (Unit))} (K : fPn_guestNamed_l2_b R o v1 v2 h = some z) (HL : ∀ s : Int32, z = .inl s → jEx X d jc_49 2 [some (.ref o), some (.int v1), some (.int s)] [] (176, R, h) Q) (HE0 : ∀ x : Int32, z = .inr (.inl x) → jEx X d jc_49 26 [none, none, some (.int x)] [] (176, R, h) Q) (HE1 : ∀ x : Unit, z = .inr (.inr x) → jEx X d jc_49 34 [none, none, none] [] (176, R, h) Q) :
    jEx X d jc_49 2 [some (.ref o), some (.int v1), some (.int v2)] [] (176, R, h) Q := by
  unfold fPn_guestNamed_l2_b at K
  refine jx_next (pc := 2) (pc' := 3) rfl rfl ?_
  refine jx_next (pc := 3) (pc' := 4) rfl rfl ?_
  refine jx_geti (pc := 4) rfl ho ?_
  refine jx_icge (pc := 7) rfl (fun hc1 => ?_) (fun hc1 => ?_)
  · replace K := (if_pos hc1).symm.trans K
    refine jx_next (pc := 10) (pc' := 11) rfl rfl ?_
    refine jx_next (pc := 11) (pc' := 13) rfl rfl ?_
    refine jx_icge (pc := 13) rfl (fun hc2 => ?_) (fun hc2 => ?_)
    · replace K := (if_pos hc2).symm.trans K
      refine jx_next (pc := 16) (pc' := 17) rfl rfl ?_
      refine jx_getr (pc := 17) rfl ho ?_
      refine jx_next (pc := 20) (pc' := 21) rfl rfl ?_
      obtain ⟨hg3, K⟩ := jguard K
      refine jx_iald (pc := 21) rfl (jtR hT ho (k := 10) (c := 20) rfl) hg3 ?_
      refine jx_next (pc := 22) (pc' := 23) rfl rfl ?_
      refine jx_icne (pc := 23) rfl (fun hc4 => ?_) (fun hc4 => ?_)
      · replace K := (if_pos hc4).symm.trans K
        obtain rfl := Option.some.inj K
        refine jx_le (pl' := [none, none, some (.int v2)]) (jle_n (jle_n (jle_v jle_nil))) ?_
        exact HE0 _ rfl
      · replace K := (if_neg hc4).symm.trans K
        refine jx_inc (pc := 28) (x := v2) (p2 := [some (.ref o), some (.int v1), some (.int (v2 + 1))]) rfl rfl (jlt rfl) rfl ?_
        refine jx_next (pc := 31) (pc' := 2) rfl rfl ?_
        obtain rfl := Option.some.inj K
        refine jx_le (pl' := [some (.ref o), some (.int v1), some (.int (v2 + 1))]) (jle_v (jle_v (jle_v jle_nil))) ?_
        exact HL _ rfl
    · replace K := (if_neg hc2).symm.trans K
      obtain rfl := Option.some.inj K
      refine jx_le (pl' := [none, none, none]) (jle_n (jle_n (jle_n jle_nil))) ?_
      exact HE1 _ rfl
  · replace K := (if_neg hc1).symm.trans K
    obtain rfl := Option.some.inj K
    refine jx_le (pl' := [none, none, none]) (jle_n (jle_n (jle_n jle_nil))) ?_
    exact HE1 _ rfl
theorem kPn_guestNamed_l2_w {X : jX} {d : Nat} {R : jR} {Q : Option Value → jS → Prop} {o : Nat} {v1 : Int32} {h : jH} (hT : jTy R) (ho : jcl 176 o = 10) (hd : 0 ≤ d) {s : Int32} {x : (Int32) ⊕ (Unit)} (K : jlim (fPn_guestNamed_l2 R o v1 h) s = some x) (HE0 : ∀ x0 : Int32, x = .inl x0 → jEx X d jc_49 26 [none, none, some (.int x0)] [] (176, R, h) Q) (HE1 : ∀ x0 : Unit, x = .inr x0 → jEx X d jc_49 34 [none, none, none] [] (176, R, h) Q) :
    jEx X d jc_49 2 [some (.ref o), some (.int v1), some (.int s)] [] (176, R, h) Q := by
  refine jlim_ok (G := fun s : Int32 => jEx X d jc_49 2 [some (.ref o), some (.int v1), some (.int s)] [] (176, R, h) Q) (GX := fun x : (Int32) ⊕ (Unit) => (∀ x0 : Int32, x = .inl x0 → jEx X d jc_49 26 [none, none, some (.int x0)] [] (176, R, h) Q) ∧ (∀ x0 : Unit, x = .inr x0 → jEx X d jc_49 34 [none, none, none] [] (176, R, h) Q)) (fun s z hz HL HE => ?_) K ⟨HE0, HE1⟩
  exact kPn_guestNamed_l2_b hT ho hd hz HL (fun x hx => (HE _ hx).1 x rfl) (fun x hx => (HE _ hx).2 x rfl)
/-- AndGuest$Plan.guestNamed(I)I -/
noncomputable def fPn_guestNamed (R : jR) (o : Nat) (v1 : Int32) (h : jH) : Option Int32 :=
  (Option.bind (jlim (fPn_guestNamed_l2 R o v1 h) 0) (fun (x5 : (Int32) ⊕ (Unit)) => Sum.elim (fun (y5 : Int32) =>
  some (y5 : Int32)) (fun (y5 : Unit) =>
  some ((-1) : Int32)) x5))
theorem kPn_guestNamed {X : jX} {d : Nat} {R : jR} {Q : Option Value → jS → Prop} {o : Nat} {v1 : Int32} {h : jH} (hT : jTy R) (ho : jcl 176 o = 10) (hd : 0 ≤ d) {z : Int32} (K : fPn_guestNamed R o v1 h = some z) (HQ : Q (some (.int z)) (176, R, h)) :
    jCa X d 49 [.ref o, .int v1] (176, R, h) Q := by
  unfold fPn_guestNamed at K
  refine jCa_of (es := jc_49) (pl := [some (.ref o), some (.int v1), none]) (M := jm_49) rfl rfl rfl rfl ?_
  refine jx_next (pc := 0) (pc' := 1) rfl rfl ?_
  refine jx_stin (pc := 1) (p2 := [some (.ref o), some (.int v1), some (.int 0)]) rfl (jlt rfl) rfl ?_
  refine jx_le (pl' := [some (.ref o), some (.int v1), some (.int 0)]) (jle_v (jle_v (jle_v jle_nil))) ?_
  obtain ⟨x5, hz_x5, K⟩ := Option.bind_eq_some_iff.mp K
  refine kPn_guestNamed_l2_w hT ho hd hz_x5 (fun y5 hx9 => ?_) (fun y5 hx9 => ?_)
  · subst hx9
    refine jx_next (pc := 26) (pc' := 27) rfl rfl ?_
    obtain rfl := Option.some.inj K
    exact jx_iret (pc := 27) rfl HQ
  · subst hx9
    refine jx_next (pc := 34) (pc' := 35) rfl rfl ?_
    obtain rfl := Option.some.inj K
    exact jx_iret (pc := 35) rfl HQ

