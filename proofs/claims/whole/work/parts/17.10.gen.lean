noncomputable def fM_qGoesOn_l0_j115 (R : jR) (o : Nat) (h : jH) : Option ((jH) ⊕ (jH)) :=
  (Option.bind (fM_qEndsPart R o h) (fun (z9 : jH) =>
  some (.inl z9)))
theorem kM_qGoesOn_l0_j115 {X : jX} {d : Nat} {R : jR} {Q : Option Value → jS → Prop} {o : Nat} {h : jH} (hT : jTy R) (ho : jcl 176 o = 12) (hd : 3 ≤ (d + 1)) {z : (jH) ⊕ (jH)} (K : fM_qGoesOn_l0_j115 R o h = some z) (HL : ∀ s : jH, z = .inl s → jEx X (d + 1) jc_223 0 [some (.ref o), none] [] (176, R, s) Q) (HE0 : ∀ x : jH, z = .inr x → jEx X (d + 1) jc_223 122 [some (.ref o), none] [] (176, R, x) Q) :
    jEx X (d + 1) jc_223 115 [some (.ref o), none] [] (176, R, h) Q := by
  unfold fM_qGoesOn_l0_j115 at K
  refine jx_next (pc := 115) (pc' := 116) rfl rfl ?_
  refine jx_callv (pc := 116) (o := o) (rest := []) rfl ⟨by decide, by decide⟩ rfl ho (Nat.le_of_ble_eq_true rfl) ?_
  obtain ⟨z9, hz_z9, K⟩ := Option.bind_eq_some_iff.mp K
  refine kM_qEndsPart hT ho (by omega) hz_z9 ?_
  refine jx_next (pc := 119) (pc' := 0) rfl rfl ?_
  obtain rfl := Option.some.inj K
  refine jx_le (pl' := [some (.ref o), none]) (jle_v (jle_n jle_nil)) ?_
  exact HL _ rfl
noncomputable def fM_qGoesOn_l0_j112 (R : jR) (o : Nat) (s0 : Nat) (s1 : Int32) (h : jH) : Option ((jH) ⊕ (jH)) :=
  (Option.bind (fM_qCode R s0 s1 h) (fun (z12 : jH) =>
  fM_qGoesOn_l0_j115 R o z12))
theorem kM_qGoesOn_l0_j112 {X : jX} {d : Nat} {R : jR} {Q : Option Value → jS → Prop} {o : Nat} {s0 : Nat} {s1 : Int32} {h : jH} (hT : jTy R) (ho : jcl 176 o = 12) (hs0 : jcl 176 s0 = 12) (hd : 3 ≤ (d + 1)) {z : (jH) ⊕ (jH)} (K : fM_qGoesOn_l0_j112 R o s0 s1 h = some z) (HL : ∀ s : jH, z = .inl s → jEx X (d + 1) jc_223 0 [some (.ref o), none] [] (176, R, s) Q) (HE0 : ∀ x : jH, z = .inr x → jEx X (d + 1) jc_223 122 [some (.ref o), none] [] (176, R, x) Q) :
    jEx X (d + 1) jc_223 112 [some (.ref o), none] [.int s1, .ref s0] (176, R, h) Q := by
  unfold fM_qGoesOn_l0_j112 at K
  refine jx_callv (pc := 112) (o := s0) (rest := []) rfl ⟨by decide, by decide⟩ rfl hs0 (Nat.le_of_ble_eq_true rfl) ?_
  obtain ⟨z12, hz_z12, K⟩ := Option.bind_eq_some_iff.mp K
  refine kM_qCode hT hs0 (by omega) hz_z12 ?_
  refine jx_le (pl' := [some (.ref o), none]) (jle_v (jle_n jle_nil)) ?_
  exact kM_qGoesOn_l0_j115 hT ho hd K HL HE0
noncomputable def fM_qGoesOn_l0_j43 (R : jR) (o : Nat) (h : jH) : Option ((jH) ⊕ (jH)) :=
  (Option.bind (fM_qDropsToBracket R o (jhI h o 2 ((h.1 o 2) + 1))) (fun (z6 : jH) =>
  (if jin ((jhI (jhI z6 o 82 ((z6.1 o 82) - 1)) o 83 (((jhI z6 o 82 ((z6.1 o 82) - 1)).1 o 83) - 1)).1 o 82) (jsh (R o 81)).2 then
  (if ((jhI (jhI z6 o 82 ((z6.1 o 82) - 1)) o 83 (((jhI z6 o 82 ((z6.1 o 82) - 1)).1 o 83) - 1)).1 (R o 81) ((jhI (jhI z6 o 82 ((z6.1 o 82) - 1)) o 83 (((jhI z6 o 82 ((z6.1 o 82) - 1)).1 o 83) - 1)).1 o 82).toNatClampNeg) = 20 then
  fM_qGoesOn_l0_j115 R o (jhI (jhI z6 o 82 ((z6.1 o 82) - 1)) o 83 (((jhI z6 o 82 ((z6.1 o 82) - 1)).1 o 83) - 1))
  else
  (if jin ((jhI (jhI z6 o 82 ((z6.1 o 82) - 1)) o 83 (((jhI z6 o 82 ((z6.1 o 82) - 1)).1 o 83) - 1)).1 o 82) (jsh (R o 81)).2 then
  (if ((jhI (jhI z6 o 82 ((z6.1 o 82) - 1)) o 83 (((jhI z6 o 82 ((z6.1 o 82) - 1)).1 o 83) - 1)).1 (R o 81) ((jhI (jhI z6 o 82 ((z6.1 o 82) - 1)) o 83 (((jhI z6 o 82 ((z6.1 o 82) - 1)).1 o 83) - 1)).1 o 82).toNatClampNeg) = 23 then
  fM_qGoesOn_l0_j112 R o o 5 (jhI (jhI z6 o 82 ((z6.1 o 82) - 1)) o 83 (((jhI z6 o 82 ((z6.1 o 82) - 1)).1 o 83) - 1))
  else
  fM_qGoesOn_l0_j112 R o o 6 (jhI (jhI z6 o 82 ((z6.1 o 82) - 1)) o 83 (((jhI z6 o 82 ((z6.1 o 82) - 1)).1 o 83) - 1)))
  else none))
  else none)))
theorem kM_qGoesOn_l0_j43 {X : jX} {d : Nat} {R : jR} {Q : Option Value → jS → Prop} {o : Nat} {h : jH} (hT : jTy R) (ho : jcl 176 o = 12) (hd : 3 ≤ (d + 1)) {z : (jH) ⊕ (jH)} (K : fM_qGoesOn_l0_j43 R o h = some z) (HL : ∀ s : jH, z = .inl s → jEx X (d + 1) jc_223 0 [some (.ref o), none] [] (176, R, s) Q) (HE0 : ∀ x : jH, z = .inr x → jEx X (d + 1) jc_223 122 [some (.ref o), none] [] (176, R, x) Q) :
    jEx X (d + 1) jc_223 43 [some (.ref o), none] [] (176, R, h) Q := by
  unfold fM_qGoesOn_l0_j43 at K
  refine jx_next (pc := 43) (pc' := 44) rfl rfl ?_
  refine jx_next (pc := 44) (pc' := 45) rfl rfl ?_
  refine jx_geti (pc := 45) rfl ho ?_
  refine jx_next (pc := 48) (pc' := 49) rfl rfl ?_
  refine jx_next (pc := 49) (pc' := 50) rfl rfl ?_
  refine jx_puti (pc := 50) rfl ho ?_
  refine jx_next (pc := 53) (pc' := 54) rfl rfl ?_
  refine jx_callv (pc := 54) (o := o) (rest := []) rfl ⟨by decide, by decide⟩ rfl ho (Nat.le_of_ble_eq_true rfl) ?_
  obtain ⟨z6, hz_z6, K⟩ := Option.bind_eq_some_iff.mp K
  refine kM_qDropsToBracket hT ho (by omega) hz_z6 ?_
  refine jx_next (pc := 57) (pc' := 58) rfl rfl ?_
  refine jx_next (pc := 58) (pc' := 59) rfl rfl ?_
  refine jx_geti (pc := 59) rfl ho ?_
  refine jx_next (pc := 62) (pc' := 63) rfl rfl ?_
  refine jx_next (pc := 63) (pc' := 64) rfl rfl ?_
  refine jx_puti (pc := 64) rfl ho ?_
  refine jx_next (pc := 67) (pc' := 68) rfl rfl ?_
  refine jx_next (pc := 68) (pc' := 69) rfl rfl ?_
  refine jx_geti (pc := 69) rfl ho ?_
  refine jx_next (pc := 72) (pc' := 73) rfl rfl ?_
  refine jx_next (pc := 73) (pc' := 74) rfl rfl ?_
  refine jx_puti (pc := 74) rfl ho ?_
  refine jx_next (pc := 77) (pc' := 78) rfl rfl ?_
  refine jx_getr (pc := 78) rfl ho ?_
  refine jx_next (pc := 81) (pc' := 82) rfl rfl ?_
  refine jx_geti (pc := 82) rfl ho ?_
  obtain ⟨hg7, K⟩ := jguard K
  refine jx_iald (pc := 85) rfl (jtR hT ho (k := 81) (c := 20) rfl) hg7 ?_
  refine jx_next (pc := 86) (pc' := 88) rfl rfl ?_
  refine jx_iceq (pc := 88) rfl (fun hc8 => ?_) (fun hc8 => ?_)
  · replace K := (if_pos hc8).symm.trans K
    refine jx_le (pl' := [some (.ref o), none]) (jle_v (jle_n jle_nil)) ?_
    exact kM_qGoesOn_l0_j115 hT ho hd K HL HE0
  · replace K := (if_neg hc8).symm.trans K
    refine jx_next (pc := 91) (pc' := 92) rfl rfl ?_
    refine jx_next (pc := 92) (pc' := 93) rfl rfl ?_
    refine jx_getr (pc := 93) rfl ho ?_
    refine jx_next (pc := 96) (pc' := 97) rfl rfl ?_
    refine jx_geti (pc := 97) rfl ho ?_
    obtain ⟨hg10, K⟩ := jguard K
    refine jx_iald (pc := 100) rfl (jtR hT ho (k := 81) (c := 20) rfl) hg10 ?_
    refine jx_next (pc := 101) (pc' := 103) rfl rfl ?_
    refine jx_icne (pc := 103) rfl (fun hc11 => ?_) (fun hc11 => ?_)
    · replace K := (if_pos hc11).symm.trans K
      refine jx_next (pc := 106) (pc' := 107) rfl rfl ?_
      refine jx_next (pc := 107) (pc' := 112) rfl rfl ?_
      refine jx_le (pl' := [some (.ref o), none]) (jle_v (jle_n jle_nil)) ?_
      exact kM_qGoesOn_l0_j112 hT ho ho hd K HL HE0
    · replace K := (if_neg hc11).symm.trans K
      refine jx_next (pc := 110) (pc' := 112) rfl rfl ?_
      refine jx_le (pl' := [some (.ref o), none]) (jle_v (jle_n jle_nil)) ?_
      exact kM_qGoesOn_l0_j112 hT ho ho hd K HL HE0
noncomputable def fM_qGoesOn_l0_b (R : jR) (o : Nat) (h : jH) : Option ((jH) ⊕ (jH)) :=
  (if (h.1 o 5) = 0 then
  (Option.bind (fM_look R o h) (fun (z2 : Int32 × jH) =>
  (if z2.1 = 41 then
  (Option.bind (fM_qBracket R o z2.2) (fun (z4 : Int32) =>
  (if z4 = 20 then
  fM_qGoesOn_l0_j43 R o z2.2
  else
  (Option.bind (fM_qBracket R o z2.2) (fun (z13 : Int32) =>
  (if z13 = 23 then
  fM_qGoesOn_l0_j43 R o z2.2
  else
  (Option.bind (fM_qBracket R o z2.2) (fun (z15 : Int32) =>
  (if z15 = 24 then
  fM_qGoesOn_l0_j43 R o z2.2
  else
  some (.inr z2.2))))))))))
  else
  some (.inr z2.2))))
  else
  some (.inr h))
noncomputable def fM_qGoesOn_l0 (R : jR) (o : Nat) : jH → Option ((jH) ⊕ (jH)) :=
  fun (s : jH) => fM_qGoesOn_l0_b R o s
theorem kM_qGoesOn_l0_b {X : jX} {d : Nat} {R : jR} {Q : Option Value → jS → Prop} {o : Nat} {h : jH} (hT : jTy R) (ho : jcl 176 o = 12) (hd : 3 ≤ (d + 1)) {z : (jH) ⊕ (jH)} (K : fM_qGoesOn_l0_b R o h = some z) (HL : ∀ s : jH, z = .inl s → jEx X (d + 1) jc_223 0 [some (.ref o), none] [] (176, R, s) Q) (HE0 : ∀ x : jH, z = .inr x → jEx X (d + 1) jc_223 122 [some (.ref o), none] [] (176, R, x) Q) :
    jEx X (d + 1) jc_223 0 [some (.ref o), none] [] (176, R, h) Q := by
  unfold fM_qGoesOn_l0_b at K
  refine jx_next (pc := 0) (pc' := 1) rfl rfl ?_
  refine jx_geti (pc := 1) rfl ho ?_
  refine jx_ifne (pc := 4) rfl (fun hc1 => ?_) (fun hc1 => ?_)
  · replace K := (if_pos hc1).symm.trans K
    refine jx_next (pc := 7) (pc' := 8) rfl rfl ?_
    refine jx_callv (pc := 8) (o := o) (rest := []) rfl ⟨by decide, by decide⟩ rfl ho (Nat.le_of_ble_eq_true rfl) ?_
    obtain ⟨z2, hz_z2, K⟩ := Option.bind_eq_some_iff.mp K
    refine kM_look hT ho (by omega) hz_z2 ?_
    refine jx_next (pc := 11) (pc' := 13) rfl rfl ?_
    refine jx_icne (pc := 13) rfl (fun hc3 => ?_) (fun hc3 => ?_)
    · replace K := (if_pos hc3).symm.trans K
      refine jx_next (pc := 16) (pc' := 17) rfl rfl ?_
      refine jx_callv (pc := 17) (o := o) (rest := []) rfl ⟨by decide, by decide⟩ rfl ho (Nat.le_of_ble_eq_true rfl) ?_
      obtain ⟨z4, hz_z4, K⟩ := Option.bind_eq_some_iff.mp K
      refine kM_qBracket hT ho (by omega) hz_z4 ?_
      refine jx_next (pc := 20) (pc' := 22) rfl rfl ?_
      refine jx_iceq (pc := 22) rfl (fun hc5 => ?_) (fun hc5 => ?_)
      · replace K := (if_pos hc5).symm.trans K
        refine jx_le (pl' := [some (.ref o), none]) (jle_v (jle_n jle_nil)) ?_
        exact kM_qGoesOn_l0_j43 hT ho hd K HL HE0
      · replace K := (if_neg hc5).symm.trans K
        refine jx_next (pc := 25) (pc' := 26) rfl rfl ?_
        refine jx_callv (pc := 26) (o := o) (rest := []) rfl ⟨by decide, by decide⟩ rfl ho (Nat.le_of_ble_eq_true rfl) ?_
        obtain ⟨z13, hz_z13, K⟩ := Option.bind_eq_some_iff.mp K
        refine kM_qBracket hT ho (by omega) hz_z13 ?_
        refine jx_next (pc := 29) (pc' := 31) rfl rfl ?_
        refine jx_iceq (pc := 31) rfl (fun hc14 => ?_) (fun hc14 => ?_)
        · replace K := (if_pos hc14).symm.trans K
          refine jx_le (pl' := [some (.ref o), none]) (jle_v (jle_n jle_nil)) ?_
          exact kM_qGoesOn_l0_j43 hT ho hd K HL HE0
        · replace K := (if_neg hc14).symm.trans K
          refine jx_next (pc := 34) (pc' := 35) rfl rfl ?_
          refine jx_callv (pc := 35) (o := o) (rest := []) rfl ⟨by decide, by decide⟩ rfl ho (Nat.le_of_ble_eq_true rfl) ?_
          obtain ⟨z15, hz_z15, K⟩ := Option.bind_eq_some_iff.mp K
          refine kM_qBracket hT ho (by omega) hz_z15 ?_
          refine jx_next (pc := 38) (pc' := 40) rfl rfl ?_
          refine jx_icne (pc := 40) rfl (fun hc16 => ?_) (fun hc16 => ?_)
          · replace K := (if_pos hc16).symm.trans K
            refine jx_le (pl' := [some (.ref o), none]) (jle_v (jle_n jle_nil)) ?_
            exact kM_qGoesOn_l0_j43 hT ho hd K HL HE0
          · replace K := (if_neg hc16).symm.trans K
            obtain rfl := Option.some.inj K
            refine jx_le (pl' := [some (.ref o), none]) (jle_v (jle_n jle_nil)) ?_
            exact HE0 _ rfl
    · replace K := (if_neg hc3).symm.trans K
      obtain rfl := Option.some.inj K
      refine jx_le (pl' := [some (.ref o), none]) (jle_v (jle_n jle_nil)) ?_
      exact HE0 _ rfl
  · replace K := (if_neg hc1).symm.trans K
    obtain rfl := Option.some.inj K
    refine jx_le (pl' := [some (.ref o), none]) (jle_v (jle_n jle_nil)) ?_
    exact HE0 _ rfl
theorem kM_qGoesOn_l0_w {X : jX} {d : Nat} {R : jR} {Q : Option Value → jS → Prop} {o : Nat} (hT : jTy R) (ho : jcl 176 o = 12) (hd : 3 ≤ (d + 1)) {s : jH} {x : jH} (K : jlim (fM_qGoesOn_l0 R o) s = some x) (HE : jEx X (d + 1) jc_223 122 [some (.ref o), none] [] (176, R, x) Q) :
    jEx X (d + 1) jc_223 0 [some (.ref o), none] [] (176, R, s) Q := by
  refine jlim_ok (G := fun s : jH => jEx X (d + 1) jc_223 0 [some (.ref o), none] [] (176, R, s) Q) (GX := fun x : jH => jEx X (d + 1) jc_223 122 [some (.ref o), none] [] (176, R, x) Q) (fun s z hz HL HE => ?_) K HE
  exact kM_qGoesOn_l0_b hT ho hd hz HL HE
noncomputable def fM_qGoesOn_j326 (R : jR) (o : Nat) (h : jH) : Option (Int32 × jH) :=
  (Option.bind (fM_asksSign R o 44 h) (fun (z28 : jH) =>
  (if (z28.1 o 5) = 0 then
  (Option.bind (fM_qDropsToBracket R o z28) (fun (z30 : jH) =>
  (if jin ((z30.1 o 82) - 1) (jsh (R o 81)).2 then
  (if jin ((z30.1 o 82) - 1) (jsh (R o 81)).2 then
  some (1, jhI z30 (R o 81) ((z30.1 o 82) - 1).toNatClampNeg ((z30.1 (R o 81) ((z30.1 o 82) - 1).toNatClampNeg) + 2))
  else none)
  else none)))
  else
  some (0, z28))))
theorem kM_qGoesOn_j326 {X : jX} {d : Nat} {R : jR} {Q : Option Value → jS → Prop} {o : Nat} {h : jH} (hT : jTy R) (ho : jcl 176 o = 12) (hd : 3 ≤ (d + 1)) {z : Int32 × jH} (K : fM_qGoesOn_j326 R o h = some z) (HQ : Q (some (.int z.1)) (176, R, z.2)) :
    jEx X (d + 1) jc_223 326 [some (.ref o), none] [] (176, R, h) Q := by
  unfold fM_qGoesOn_j326 at K
  refine jx_next (pc := 326) (pc' := 327) rfl rfl ?_
  refine jx_next (pc := 327) (pc' := 329) rfl rfl ?_
  refine jx_callv (pc := 329) (o := o) (rest := []) rfl ⟨by decide, by decide⟩ rfl ho (Nat.le_of_ble_eq_true rfl) ?_
  obtain ⟨z28, hz_z28, K⟩ := Option.bind_eq_some_iff.mp K
  refine kM_asksSign hT ho (by omega) hz_z28 ?_
  refine jx_next (pc := 332) (pc' := 333) rfl rfl ?_
  refine jx_geti (pc := 333) rfl ho ?_
  refine jx_ifeq (pc := 336) rfl (fun hc29 => ?_) (fun hc29 => ?_)
  · replace K := (if_pos hc29).symm.trans K
    refine jx_next (pc := 341) (pc' := 342) rfl rfl ?_
    refine jx_callv (pc := 342) (o := o) (rest := []) rfl ⟨by decide, by decide⟩ rfl ho (Nat.le_of_ble_eq_true rfl) ?_
    obtain ⟨z30, hz_z30, K⟩ := Option.bind_eq_some_iff.mp K
    refine kM_qDropsToBracket hT ho (by omega) hz_z30 ?_
    refine jx_next (pc := 345) (pc' := 346) rfl rfl ?_
    refine jx_getr (pc := 346) rfl ho ?_
    refine jx_next (pc := 349) (pc' := 350) rfl rfl ?_
    refine jx_geti (pc := 350) rfl ho ?_
    refine jx_next (pc := 353) (pc' := 354) rfl rfl ?_
    refine jx_next (pc := 354) (pc' := 355) rfl rfl ?_
    refine jx_next (pc := 355) (pc' := 356) rfl rfl ?_
    obtain ⟨hg31, K⟩ := jguard K
    refine jx_iald (pc := 356) rfl (jtR hT ho (k := 81) (c := 20) rfl) hg31 ?_
    refine jx_next (pc := 357) (pc' := 358) rfl rfl ?_
    refine jx_next (pc := 358) (pc' := 359) rfl rfl ?_
    obtain ⟨hg32, K⟩ := jguard K
    refine jx_iast (pc := 359) rfl (jtR hT ho (k := 81) (c := 20) rfl) hg32 ?_
    refine jx_next (pc := 360) (pc' := 361) rfl rfl ?_
    obtain rfl := Option.some.inj K
    exact jx_zret (pc := 361) rfl (Or.inr rfl) HQ
  · replace K := (if_neg hc29).symm.trans K
    refine jx_next (pc := 339) (pc' := 340) rfl rfl ?_
    obtain rfl := Option.some.inj K
    exact jx_zret (pc := 340) rfl (Or.inl rfl) HQ
noncomputable def fM_qGoesOn_l247_j279 (R : jR) (o : Nat) (v1 : Int32) (h : jH) : Option ((jH) ⊕ (jH)) :=
  (Option.bind (fM_qDrops R o h) (fun (z49 : jH) =>
  some (.inl z49)))
theorem kM_qGoesOn_l247_j279 {X : jX} {d : Nat} {R : jR} {Q : Option Value → jS → Prop} {o : Nat} {v1 : Int32} {h : jH} (hT : jTy R) (ho : jcl 176 o = 12) (hd : 3 ≤ (d + 1)) {z : (jH) ⊕ (jH)} (K : fM_qGoesOn_l247_j279 R o v1 h = some z) (HL : ∀ s : jH, z = .inl s → jEx X (d + 1) jc_223 247 [some (.ref o), some (.int v1)] [] (176, R, s) Q) (HE0 : ∀ x : jH, z = .inr x → jEx X (d + 1) jc_223 286 [some (.ref o), some (.int v1)] [] (176, R, x) Q) :
    jEx X (d + 1) jc_223 279 [some (.ref o), some (.int v1)] [] (176, R, h) Q := by
  unfold fM_qGoesOn_l247_j279 at K
  refine jx_next (pc := 279) (pc' := 280) rfl rfl ?_
  refine jx_callv (pc := 280) (o := o) (rest := []) rfl ⟨by decide, by decide⟩ rfl ho (Nat.le_of_ble_eq_true rfl) ?_
  obtain ⟨z49, hz_z49, K⟩ := Option.bind_eq_some_iff.mp K
  refine kM_qDrops hT ho (by omega) hz_z49 ?_
  refine jx_next (pc := 283) (pc' := 247) rfl rfl ?_
  obtain rfl := Option.some.inj K
  refine jx_le (pl' := [some (.ref o), some (.int v1)]) (jle_v (jle_v jle_nil)) ?_
  exact HL _ rfl
noncomputable def fM_qGoesOn_l247_b (R : jR) (o : Nat) (v1 : Int32) (h : jH) : Option ((jH) ⊕ (jH)) :=
  (Option.bind (fM_qIsOn R o 3 h) (fun (z41 : Int32) =>
  (if z41 = 0 then
  (Option.bind (fM_qIsOn R o 4 h) (fun (z43 : Int32) =>
  (if z43 = 0 then
  (Option.bind (fM_qIsOn R o 1 h) (fun (z45 : Int32) =>
  (if z45 = 0 then
  (Option.bind (fM_qIsOn R o 2 h) (fun (z47 : Int32) =>
  (if z47 = 0 then
  some (.inr h)
  else
  fM_qGoesOn_l247_j279 R o v1 h)))
  else
  fM_qGoesOn_l247_j279 R o v1 h)))
  else
  fM_qGoesOn_l247_j279 R o v1 h)))
  else
  fM_qGoesOn_l247_j279 R o v1 h)))
noncomputable def fM_qGoesOn_l247 (R : jR) (o : Nat) (v1 : Int32) : jH → Option ((jH) ⊕ (jH)) :=
  fun (s : jH) => fM_qGoesOn_l247_b R o v1 s
theorem kM_qGoesOn_l247_b {X : jX} {d : Nat} {R : jR} {Q : Option Value → jS → Prop} {o : Nat} {v1 : Int32} {h : jH} (hT : jTy R) (ho : jcl 176 o = 12) (hd : 3 ≤ (d + 1)) {z : (jH) ⊕ (jH)} (K : fM_qGoesOn_l247_b R o v1 h = some z) (HL : ∀ s : jH, z = .inl s → jEx X (d + 1) jc_223 247 [some (.ref o), some (.int v1)] [] (176, R, s) Q) (HE0 : ∀ x : jH, z = .inr x → jEx X (d + 1) jc_223 286 [some (.ref o), some (.int v1)] [] (176, R, x) Q) :
    jEx X (d + 1) jc_223 247 [some (.ref o), some (.int v1)] [] (176, R, h) Q := by
  unfold fM_qGoesOn_l247_b at K
  refine jx_next (pc := 247) (pc' := 248) rfl rfl ?_
  refine jx_next (pc := 248) (pc' := 249) rfl rfl ?_
  refine jx_callv (pc := 249) (o := o) (rest := []) rfl ⟨by decide, by decide⟩ rfl ho (Nat.le_of_ble_eq_true rfl) ?_
  obtain ⟨z41, hz_z41, K⟩ := Option.bind_eq_some_iff.mp K
  refine kM_qIsOn hT ho (by omega) hz_z41 ?_
  refine jx_ifne (pc := 252) rfl (fun hc42 => ?_) (fun hc42 => ?_)
  · replace K := (if_pos hc42).symm.trans K
    refine jx_next (pc := 255) (pc' := 256) rfl rfl ?_
    refine jx_next (pc := 256) (pc' := 257) rfl rfl ?_
    refine jx_callv (pc := 257) (o := o) (rest := []) rfl ⟨by decide, by decide⟩ rfl ho (Nat.le_of_ble_eq_true rfl) ?_
    obtain ⟨z43, hz_z43, K⟩ := Option.bind_eq_some_iff.mp K
    refine kM_qIsOn hT ho (by omega) hz_z43 ?_
    refine jx_ifne (pc := 260) rfl (fun hc44 => ?_) (fun hc44 => ?_)
    · replace K := (if_pos hc44).symm.trans K
      refine jx_next (pc := 263) (pc' := 264) rfl rfl ?_
      refine jx_next (pc := 264) (pc' := 265) rfl rfl ?_
      refine jx_callv (pc := 265) (o := o) (rest := []) rfl ⟨by decide, by decide⟩ rfl ho (Nat.le_of_ble_eq_true rfl) ?_
      obtain ⟨z45, hz_z45, K⟩ := Option.bind_eq_some_iff.mp K
      refine kM_qIsOn hT ho (by omega) hz_z45 ?_
      refine jx_ifne (pc := 268) rfl (fun hc46 => ?_) (fun hc46 => ?_)
      · replace K := (if_pos hc46).symm.trans K
        refine jx_next (pc := 271) (pc' := 272) rfl rfl ?_
        refine jx_next (pc := 272) (pc' := 273) rfl rfl ?_
        refine jx_callv (pc := 273) (o := o) (rest := []) rfl ⟨by decide, by decide⟩ rfl ho (Nat.le_of_ble_eq_true rfl) ?_
        obtain ⟨z47, hz_z47, K⟩ := Option.bind_eq_some_iff.mp K
        refine kM_qIsOn hT ho (by omega) hz_z47 ?_
        refine jx_ifeq (pc := 276) rfl (fun hc48 => ?_) (fun hc48 => ?_)
        · replace K := (if_pos hc48).symm.trans K
          obtain rfl := Option.some.inj K
          refine jx_le (pl' := [some (.ref o), some (.int v1)]) (jle_v (jle_v jle_nil)) ?_
          exact HE0 _ rfl
        · replace K := (if_neg hc48).symm.trans K
          refine jx_le (pl' := [some (.ref o), some (.int v1)]) (jle_v (jle_v jle_nil)) ?_
          exact kM_qGoesOn_l247_j279 hT ho hd K HL HE0
      · replace K := (if_neg hc46).symm.trans K
        refine jx_le (pl' := [some (.ref o), some (.int v1)]) (jle_v (jle_v jle_nil)) ?_
        exact kM_qGoesOn_l247_j279 hT ho hd K HL HE0
    · replace K := (if_neg hc44).symm.trans K
      refine jx_le (pl' := [some (.ref o), some (.int v1)]) (jle_v (jle_v jle_nil)) ?_
      exact kM_qGoesOn_l247_j279 hT ho hd K HL HE0
  · replace K := (if_neg hc42).symm.trans K
    refine jx_le (pl' := [some (.ref o), some (.int v1)]) (jle_v (jle_v jle_nil)) ?_
    exact kM_qGoesOn_l247_j279 hT ho hd K HL HE0
theorem kM_qGoesOn_l247_w {X : jX} {d : Nat} {R : jR} {Q : Option Value → jS → Prop} {o : Nat} {v1 : Int32} (hT : jTy R) (ho : jcl 176 o = 12) (hd : 3 ≤ (d + 1)) {s : jH} {x : jH} (K : jlim (fM_qGoesOn_l247 R o v1) s = some x) (HE : jEx X (d + 1) jc_223 286 [some (.ref o), some (.int v1)] [] (176, R, x) Q) :
    jEx X (d + 1) jc_223 247 [some (.ref o), some (.int v1)] [] (176, R, s) Q := by
  refine jlim_ok (G := fun s : jH => jEx X (d + 1) jc_223 247 [some (.ref o), some (.int v1)] [] (176, R, s) Q) (GX := fun x : jH => jEx X (d + 1) jc_223 286 [some (.ref o), some (.int v1)] [] (176, R, x) Q) (fun s z hz HL HE => ?_) K HE
  exact kM_qGoesOn_l247_b hT ho hd hz HL HE
noncomputable def fM_qGoesOn_j246 (R : jR) (o : Nat) (s0 : Int32) (h : jH) : Option (Int32 × jH) :=
  (Option.bind (jlim (fM_qGoesOn_l247 R o s0) h) (fun (x50 : jH) =>
  (if jin (x50.1 o 82) (jsh (R o 81)).2 then
  some (1, jhI (jhI x50 (R o 81) (x50.1 o 82).toNatClampNeg s0) o 82 (((jhI x50 (R o 81) (x50.1 o 82).toNatClampNeg s0).1 o 82) + 1))
  else none)))
theorem kM_qGoesOn_j246 {X : jX} {d : Nat} {R : jR} {Q : Option Value → jS → Prop} {o : Nat} {s0 : Int32} {h : jH} (hT : jTy R) (ho : jcl 176 o = 12) (hd : 3 ≤ (d + 1)) {z : Int32 × jH} (K : fM_qGoesOn_j246 R o s0 h = some z) (HQ : Q (some (.int z.1)) (176, R, z.2)) :
    jEx X (d + 1) jc_223 246 [some (.ref o), none] [.int s0] (176, R, h) Q := by
  unfold fM_qGoesOn_j246 at K
  refine jx_stin (pc := 246) (p2 := [some (.ref o), some (.int s0)]) rfl (jlt rfl) rfl ?_
  refine jx_le (pl' := [some (.ref o), some (.int s0)]) (jle_v (jle_v jle_nil)) ?_
  obtain ⟨x50, hz_x50, K⟩ := Option.bind_eq_some_iff.mp K
  refine kM_qGoesOn_l247_w hT ho hd hz_x50 ?_
  refine jx_next (pc := 286) (pc' := 287) rfl rfl ?_
  refine jx_getr (pc := 287) rfl ho ?_
  refine jx_next (pc := 290) (pc' := 291) rfl rfl ?_
  refine jx_geti (pc := 291) rfl ho ?_
  refine jx_next (pc := 294) (pc' := 295) rfl rfl ?_
  obtain ⟨hg51, K⟩ := jguard K
  refine jx_iast (pc := 295) rfl (jtR hT ho (k := 81) (c := 20) rfl) hg51 ?_
  refine jx_next (pc := 296) (pc' := 297) rfl rfl ?_
  refine jx_next (pc := 297) (pc' := 298) rfl rfl ?_
  refine jx_geti (pc := 298) rfl ho ?_
  refine jx_next (pc := 301) (pc' := 302) rfl rfl ?_
  refine jx_next (pc := 302) (pc' := 303) rfl rfl ?_
  refine jx_puti (pc := 303) rfl ho ?_
  refine jx_next (pc := 306) (pc' := 307) rfl rfl ?_
  obtain rfl := Option.some.inj K
  exact jx_zret (pc := 307) rfl (Or.inr rfl) HQ
noncomputable def fM_qGoesOn_j225 (R : jR) (o : Nat) (h : jH) : Option (Int32 × jH) :=
  (if jin ((h.1 o 2) - 1) (jsh (R o 0)).2 then
  (if (h.1 (R o 0) ((h.1 o 2) - 1).toNatClampNeg) = 43 then
  fM_qGoesOn_j246 R o 1 h
  else
  fM_qGoesOn_j246 R o 2 h)
  else none)
theorem kM_qGoesOn_j225 {X : jX} {d : Nat} {R : jR} {Q : Option Value → jS → Prop} {o : Nat} {h : jH} (hT : jTy R) (ho : jcl 176 o = 12) (hd : 3 ≤ (d + 1)) {z : Int32 × jH} (K : fM_qGoesOn_j225 R o h = some z) (HQ : Q (some (.int z.1)) (176, R, z.2)) :
    jEx X (d + 1) jc_223 225 [some (.ref o), none] [] (176, R, h) Q := by
  unfold fM_qGoesOn_j225 at K
  refine jx_next (pc := 225) (pc' := 226) rfl rfl ?_
  refine jx_getr (pc := 226) rfl ho ?_
  refine jx_next (pc := 229) (pc' := 230) rfl rfl ?_
  refine jx_geti (pc := 230) rfl ho ?_
  refine jx_next (pc := 233) (pc' := 234) rfl rfl ?_
  refine jx_next (pc := 234) (pc' := 235) rfl rfl ?_
  obtain ⟨hg39, K⟩ := jguard K
  refine jx_iald (pc := 235) rfl (jtR hT ho (k := 0) (c := 20) rfl) hg39 ?_
  refine jx_next (pc := 236) (pc' := 238) rfl rfl ?_
  refine jx_icne (pc := 238) rfl (fun hc40 => ?_) (fun hc40 => ?_)
  · replace K := (if_pos hc40).symm.trans K
    refine jx_next (pc := 241) (pc' := 242) rfl rfl ?_
    refine jx_next (pc := 242) (pc' := 246) rfl rfl ?_
    refine jx_le (pl' := [some (.ref o), none]) (jle_v (jle_n jle_nil)) ?_
    exact kM_qGoesOn_j246 hT ho hd K HQ
  · replace K := (if_neg hc40).symm.trans K
    refine jx_next (pc := 245) (pc' := 246) rfl rfl ?_
    refine jx_le (pl' := [some (.ref o), none]) (jle_v (jle_n jle_nil)) ?_
    exact kM_qGoesOn_j246 hT ho hd K HQ
noncomputable def fM_qGoesOn_l162_j178 (R : jR) (o : Nat) (v1 : Int32) (h : jH) : Option ((jH) ⊕ (jH)) :=
  (Option.bind (fM_qDrops R o h) (fun (z58 : jH) =>
  some (.inl z58)))
theorem kM_qGoesOn_l162_j178 {X : jX} {d : Nat} {R : jR} {Q : Option Value → jS → Prop} {o : Nat} {v1 : Int32} {h : jH} (hT : jTy R) (ho : jcl 176 o = 12) (hd : 3 ≤ (d + 1)) {z : (jH) ⊕ (jH)} (K : fM_qGoesOn_l162_j178 R o v1 h = some z) (HL : ∀ s : jH, z = .inl s → jEx X (d + 1) jc_223 162 [some (.ref o), some (.int v1)] [] (176, R, s) Q) (HE0 : ∀ x : jH, z = .inr x → jEx X (d + 1) jc_223 185 [some (.ref o), some (.int v1)] [] (176, R, x) Q) :
    jEx X (d + 1) jc_223 178 [some (.ref o), some (.int v1)] [] (176, R, h) Q := by
  unfold fM_qGoesOn_l162_j178 at K
  refine jx_next (pc := 178) (pc' := 179) rfl rfl ?_
  refine jx_callv (pc := 179) (o := o) (rest := []) rfl ⟨by decide, by decide⟩ rfl ho (Nat.le_of_ble_eq_true rfl) ?_
  obtain ⟨z58, hz_z58, K⟩ := Option.bind_eq_some_iff.mp K
  refine kM_qDrops hT ho (by omega) hz_z58 ?_
  refine jx_next (pc := 182) (pc' := 162) rfl rfl ?_
  obtain rfl := Option.some.inj K
  refine jx_le (pl' := [some (.ref o), some (.int v1)]) (jle_v (jle_v jle_nil)) ?_
  exact HL _ rfl
noncomputable def fM_qGoesOn_l162_b (R : jR) (o : Nat) (v1 : Int32) (h : jH) : Option ((jH) ⊕ (jH)) :=
  (Option.bind (fM_qIsOn R o 3 h) (fun (z54 : Int32) =>
  (if z54 = 0 then
  (Option.bind (fM_qIsOn R o 4 h) (fun (z56 : Int32) =>
  (if z56 = 0 then
  some (.inr h)
  else
  fM_qGoesOn_l162_j178 R o v1 h)))
  else
  fM_qGoesOn_l162_j178 R o v1 h)))
noncomputable def fM_qGoesOn_l162 (R : jR) (o : Nat) (v1 : Int32) : jH → Option ((jH) ⊕ (jH)) :=
  fun (s : jH) => fM_qGoesOn_l162_b R o v1 s
theorem kM_qGoesOn_l162_b {X : jX} {d : Nat} {R : jR} {Q : Option Value → jS → Prop} {o : Nat} {v1 : Int32} {h : jH} (hT : jTy R) (ho : jcl 176 o = 12) (hd : 3 ≤ (d + 1)) {z : (jH) ⊕ (jH)} (K : fM_qGoesOn_l162_b R o v1 h = some z) (HL : ∀ s : jH, z = .inl s → jEx X (d + 1) jc_223 162 [some (.ref o), some (.int v1)] [] (176, R, s) Q) (HE0 : ∀ x : jH, z = .inr x → jEx X (d + 1) jc_223 185 [some (.ref o), some (.int v1)] [] (176, R, x) Q) :
    jEx X (d + 1) jc_223 162 [some (.ref o), some (.int v1)] [] (176, R, h) Q := by
  unfold fM_qGoesOn_l162_b at K
  refine jx_next (pc := 162) (pc' := 163) rfl rfl ?_
  refine jx_next (pc := 163) (pc' := 164) rfl rfl ?_
  refine jx_callv (pc := 164) (o := o) (rest := []) rfl ⟨by decide, by decide⟩ rfl ho (Nat.le_of_ble_eq_true rfl) ?_
  obtain ⟨z54, hz_z54, K⟩ := Option.bind_eq_some_iff.mp K
  refine kM_qIsOn hT ho (by omega) hz_z54 ?_
  refine jx_ifne (pc := 167) rfl (fun hc55 => ?_) (fun hc55 => ?_)
  · replace K := (if_pos hc55).symm.trans K
    refine jx_next (pc := 170) (pc' := 171) rfl rfl ?_
    refine jx_next (pc := 171) (pc' := 172) rfl rfl ?_
    refine jx_callv (pc := 172) (o := o) (rest := []) rfl ⟨by decide, by decide⟩ rfl ho (Nat.le_of_ble_eq_true rfl) ?_
    obtain ⟨z56, hz_z56, K⟩ := Option.bind_eq_some_iff.mp K
    refine kM_qIsOn hT ho (by omega) hz_z56 ?_
    refine jx_ifeq (pc := 175) rfl (fun hc57 => ?_) (fun hc57 => ?_)
    · replace K := (if_pos hc57).symm.trans K
      obtain rfl := Option.some.inj K
      refine jx_le (pl' := [some (.ref o), some (.int v1)]) (jle_v (jle_v jle_nil)) ?_
      exact HE0 _ rfl
    · replace K := (if_neg hc57).symm.trans K
      refine jx_le (pl' := [some (.ref o), some (.int v1)]) (jle_v (jle_v jle_nil)) ?_
      exact kM_qGoesOn_l162_j178 hT ho hd K HL HE0
  · replace K := (if_neg hc55).symm.trans K
    refine jx_le (pl' := [some (.ref o), some (.int v1)]) (jle_v (jle_v jle_nil)) ?_
    exact kM_qGoesOn_l162_j178 hT ho hd K HL HE0
theorem kM_qGoesOn_l162_w {X : jX} {d : Nat} {R : jR} {Q : Option Value → jS → Prop} {o : Nat} {v1 : Int32} (hT : jTy R) (ho : jcl 176 o = 12) (hd : 3 ≤ (d + 1)) {s : jH} {x : jH} (K : jlim (fM_qGoesOn_l162 R o v1) s = some x) (HE : jEx X (d + 1) jc_223 185 [some (.ref o), some (.int v1)] [] (176, R, x) Q) :
    jEx X (d + 1) jc_223 162 [some (.ref o), some (.int v1)] [] (176, R, s) Q := by
  refine jlim_ok (G := fun s : jH => jEx X (d + 1) jc_223 162 [some (.ref o), some (.int v1)] [] (176, R, s) Q) (GX := fun x : jH => jEx X (d + 1) jc_223 185 [some (.ref o), some (.int v1)] [] (176, R, x) Q) (fun s z hz HL HE => ?_) K HE
  exact kM_qGoesOn_l162_b hT ho hd hz HL HE
noncomputable def fM_qGoesOn_j161 (R : jR) (o : Nat) (s0 : Int32) (h : jH) : Option (Int32 × jH) :=
  (Option.bind (jlim (fM_qGoesOn_l162 R o s0) h) (fun (x59 : jH) =>
  (if jin (x59.1 o 82) (jsh (R o 81)).2 then
  some (1, jhI (jhI x59 (R o 81) (x59.1 o 82).toNatClampNeg s0) o 82 (((jhI x59 (R o 81) (x59.1 o 82).toNatClampNeg s0).1 o 82) + 1))
  else none)))
theorem kM_qGoesOn_j161 {X : jX} {d : Nat} {R : jR} {Q : Option Value → jS → Prop} {o : Nat} {s0 : Int32} {h : jH} (hT : jTy R) (ho : jcl 176 o = 12) (hd : 3 ≤ (d + 1)) {z : Int32 × jH} (K : fM_qGoesOn_j161 R o s0 h = some z) (HQ : Q (some (.int z.1)) (176, R, z.2)) :
    jEx X (d + 1) jc_223 161 [some (.ref o), none] [.int s0] (176, R, h) Q := by
  unfold fM_qGoesOn_j161 at K
  refine jx_stin (pc := 161) (p2 := [some (.ref o), some (.int s0)]) rfl (jlt rfl) rfl ?_
  refine jx_le (pl' := [some (.ref o), some (.int s0)]) (jle_v (jle_v jle_nil)) ?_
  obtain ⟨x59, hz_x59, K⟩ := Option.bind_eq_some_iff.mp K
  refine kM_qGoesOn_l162_w hT ho hd hz_x59 ?_
  refine jx_next (pc := 185) (pc' := 186) rfl rfl ?_
  refine jx_getr (pc := 186) rfl ho ?_
  refine jx_next (pc := 189) (pc' := 190) rfl rfl ?_
  refine jx_geti (pc := 190) rfl ho ?_
  refine jx_next (pc := 193) (pc' := 194) rfl rfl ?_
  obtain ⟨hg60, K⟩ := jguard K
  refine jx_iast (pc := 194) rfl (jtR hT ho (k := 81) (c := 20) rfl) hg60 ?_
  refine jx_next (pc := 195) (pc' := 196) rfl rfl ?_
  refine jx_next (pc := 196) (pc' := 197) rfl rfl ?_
  refine jx_geti (pc := 197) rfl ho ?_
  refine jx_next (pc := 200) (pc' := 201) rfl rfl ?_
  refine jx_next (pc := 201) (pc' := 202) rfl rfl ?_
  refine jx_puti (pc := 202) rfl ho ?_
  refine jx_next (pc := 205) (pc' := 206) rfl rfl ?_
  obtain rfl := Option.some.inj K
  exact jx_zret (pc := 206) rfl (Or.inr rfl) HQ
noncomputable def fM_qGoesOn_j140 (R : jR) (o : Nat) (h : jH) : Option (Int32 × jH) :=
  (if jin ((h.1 o 2) - 1) (jsh (R o 0)).2 then
  (if (h.1 (R o 0) ((h.1 o 2) - 1).toNatClampNeg) = 42 then
  fM_qGoesOn_j161 R o 3 h
  else
  fM_qGoesOn_j161 R o 4 h)
  else none)
theorem kM_qGoesOn_j140 {X : jX} {d : Nat} {R : jR} {Q : Option Value → jS → Prop} {o : Nat} {h : jH} (hT : jTy R) (ho : jcl 176 o = 12) (hd : 3 ≤ (d + 1)) {z : Int32 × jH} (K : fM_qGoesOn_j140 R o h = some z) (HQ : Q (some (.int z.1)) (176, R, z.2)) :
    jEx X (d + 1) jc_223 140 [some (.ref o), none] [] (176, R, h) Q := by
  unfold fM_qGoesOn_j140 at K
  refine jx_next (pc := 140) (pc' := 141) rfl rfl ?_
  refine jx_getr (pc := 141) rfl ho ?_
  refine jx_next (pc := 144) (pc' := 145) rfl rfl ?_
  refine jx_geti (pc := 145) rfl ho ?_
  refine jx_next (pc := 148) (pc' := 149) rfl rfl ?_
  refine jx_next (pc := 149) (pc' := 150) rfl rfl ?_
  obtain ⟨hg52, K⟩ := jguard K
  refine jx_iald (pc := 150) rfl (jtR hT ho (k := 0) (c := 20) rfl) hg52 ?_
  refine jx_next (pc := 151) (pc' := 153) rfl rfl ?_
  refine jx_icne (pc := 153) rfl (fun hc53 => ?_) (fun hc53 => ?_)
  · replace K := (if_pos hc53).symm.trans K
    refine jx_next (pc := 156) (pc' := 157) rfl rfl ?_
    refine jx_next (pc := 157) (pc' := 161) rfl rfl ?_
    refine jx_le (pl' := [some (.ref o), none]) (jle_v (jle_n jle_nil)) ?_
    exact kM_qGoesOn_j161 hT ho hd K HQ
  · replace K := (if_neg hc53).symm.trans K
    refine jx_next (pc := 160) (pc' := 161) rfl rfl ?_
    refine jx_le (pl' := [some (.ref o), none]) (jle_v (jle_n jle_nil)) ?_
    exact kM_qGoesOn_j161 hT ho hd K HQ
/-- AndGuestModel.qGoesOn()Z -/
noncomputable def fM_qGoesOn (R : jR) (o : Nat) (h : jH) : Option (Int32 × jH) :=
  (Option.bind (jlim (fM_qGoesOn_l0 R o) h) (fun (x17 : jH) =>
  (Option.bind (fM_takesSign R o 42 x17) (fun (z18 : Int32 × jH) =>
  (if z18.1 = 0 then
  (Option.bind (fM_takesSign R o 47 z18.2) (fun (z20 : Int32 × jH) =>
  (if z20.1 = 0 then
  (Option.bind (fM_takesSign R o 43 z20.2) (fun (z22 : Int32 × jH) =>
  (if z22.1 = 0 then
  (Option.bind (fM_takesSign R o 45 z22.2) (fun (z24 : Int32 × jH) =>
  (if z24.1 = 0 then
  (Option.bind (fM_qBracket R o z24.2) (fun (z26 : Int32) =>
  (if z26 = 21 then
  fM_qGoesOn_j326 R o z24.2
  else
  (Option.bind (fM_qBracket R o z24.2) (fun (z33 : Int32) =>
  (if z33 = 22 then
  fM_qGoesOn_j326 R o z24.2
  else
  (Option.bind (fM_qBracket R o z24.2) (fun (z35 : Int32) =>
  (if z35 = (-1) then
  some (0, z24.2)
  else
  (if (z24.2.1 o 5) = 0 then
  some (0, (fM_fail R o 1 (z24.2.1 o 2) z24.2))
  else
  some (0, z24.2)))))))))))
  else
  fM_qGoesOn_j225 R o z24.2)))
  else
  fM_qGoesOn_j225 R o z22.2)))
  else
  fM_qGoesOn_j140 R o z20.2)))
  else
  fM_qGoesOn_j140 R o z18.2)))))
theorem kM_qGoesOn {X : jX} {d : Nat} {R : jR} {Q : Option Value → jS → Prop} {o : Nat} {h : jH} (hT : jTy R) (ho : jcl 176 o = 12) (hd : 3 ≤ d) {z : Int32 × jH} (K : fM_qGoesOn R o h = some z) (HQ : Q (some (.int z.1)) (176, R, z.2)) :
    jCa X d 223 [.ref o] (176, R, h) Q := by
  obtain ⟨d, rfl⟩ : ∃ d9, d = d9 + 1 := ⟨d - 1, by omega⟩
  unfold fM_qGoesOn at K
  refine jCa_of (es := jc_223) (pl := [some (.ref o), none]) (M := jm_223) rfl rfl rfl rfl ?_
  refine jx_le (pl' := [some (.ref o), none]) (jle_v (jle_n jle_nil)) ?_
  obtain ⟨x17, hz_x17, K⟩ := Option.bind_eq_some_iff.mp K
  refine kM_qGoesOn_l0_w hT ho hd hz_x17 ?_
  refine jx_next (pc := 122) (pc' := 123) rfl rfl ?_
  refine jx_next (pc := 123) (pc' := 125) rfl rfl ?_
  refine jx_callv (pc := 125) (o := o) (rest := []) rfl ⟨by decide, by decide⟩ rfl ho (Nat.le_of_ble_eq_true rfl) ?_
  obtain ⟨z18, hz_z18, K⟩ := Option.bind_eq_some_iff.mp K
  refine kM_takesSign hT ho (by omega) hz_z18 ?_
  refine jx_ifne (pc := 128) rfl (fun hc19 => ?_) (fun hc19 => ?_)
  · replace K := (if_pos hc19).symm.trans K
    refine jx_next (pc := 131) (pc' := 132) rfl rfl ?_
    refine jx_next (pc := 132) (pc' := 134) rfl rfl ?_
    refine jx_callv (pc := 134) (o := o) (rest := []) rfl ⟨by decide, by decide⟩ rfl ho (Nat.le_of_ble_eq_true rfl) ?_
    obtain ⟨z20, hz_z20, K⟩ := Option.bind_eq_some_iff.mp K
    refine kM_takesSign hT ho (by omega) hz_z20 ?_
    refine jx_ifeq (pc := 137) rfl (fun hc21 => ?_) (fun hc21 => ?_)
    · replace K := (if_pos hc21).symm.trans K
      refine jx_next (pc := 207) (pc' := 208) rfl rfl ?_
      refine jx_next (pc := 208) (pc' := 210) rfl rfl ?_
      refine jx_callv (pc := 210) (o := o) (rest := []) rfl ⟨by decide, by decide⟩ rfl ho (Nat.le_of_ble_eq_true rfl) ?_
      obtain ⟨z22, hz_z22, K⟩ := Option.bind_eq_some_iff.mp K
      refine kM_takesSign hT ho (by omega) hz_z22 ?_
      refine jx_ifne (pc := 213) rfl (fun hc23 => ?_) (fun hc23 => ?_)
      · replace K := (if_pos hc23).symm.trans K
        refine jx_next (pc := 216) (pc' := 217) rfl rfl ?_
        refine jx_next (pc := 217) (pc' := 219) rfl rfl ?_
        refine jx_callv (pc := 219) (o := o) (rest := []) rfl ⟨by decide, by decide⟩ rfl ho (Nat.le_of_ble_eq_true rfl) ?_
        obtain ⟨z24, hz_z24, K⟩ := Option.bind_eq_some_iff.mp K
        refine kM_takesSign hT ho (by omega) hz_z24 ?_
        refine jx_ifeq (pc := 222) rfl (fun hc25 => ?_) (fun hc25 => ?_)
        · replace K := (if_pos hc25).symm.trans K
          refine jx_next (pc := 308) (pc' := 309) rfl rfl ?_
          refine jx_callv (pc := 309) (o := o) (rest := []) rfl ⟨by decide, by decide⟩ rfl ho (Nat.le_of_ble_eq_true rfl) ?_
          obtain ⟨z26, hz_z26, K⟩ := Option.bind_eq_some_iff.mp K
          refine kM_qBracket hT ho (by omega) hz_z26 ?_
          refine jx_next (pc := 312) (pc' := 314) rfl rfl ?_
          refine jx_iceq (pc := 314) rfl (fun hc27 => ?_) (fun hc27 => ?_)
          · replace K := (if_pos hc27).symm.trans K
            refine jx_le (pl' := [some (.ref o), none]) (jle_v (jle_n jle_nil)) ?_
            exact kM_qGoesOn_j326 hT ho hd K HQ
          · replace K := (if_neg hc27).symm.trans K
            refine jx_next (pc := 317) (pc' := 318) rfl rfl ?_
            refine jx_callv (pc := 318) (o := o) (rest := []) rfl ⟨by decide, by decide⟩ rfl ho (Nat.le_of_ble_eq_true rfl) ?_
            obtain ⟨z33, hz_z33, K⟩ := Option.bind_eq_some_iff.mp K
            refine kM_qBracket hT ho (by omega) hz_z33 ?_
            refine jx_next (pc := 321) (pc' := 323) rfl rfl ?_
            refine jx_icne (pc := 323) rfl (fun hc34 => ?_) (fun hc34 => ?_)
            · replace K := (if_pos hc34).symm.trans K
              refine jx_le (pl' := [some (.ref o), none]) (jle_v (jle_n jle_nil)) ?_
              exact kM_qGoesOn_j326 hT ho hd K HQ
            · replace K := (if_neg hc34).symm.trans K
              refine jx_next (pc := 362) (pc' := 363) rfl rfl ?_
              refine jx_callv (pc := 363) (o := o) (rest := []) rfl ⟨by decide, by decide⟩ rfl ho (Nat.le_of_ble_eq_true rfl) ?_
              obtain ⟨z35, hz_z35, K⟩ := Option.bind_eq_some_iff.mp K
              refine kM_qBracket hT ho (by omega) hz_z35 ?_
              refine jx_next (pc := 366) (pc' := 367) rfl rfl ?_
              refine jx_iceq (pc := 367) rfl (fun hc36 => ?_) (fun hc36 => ?_)
              · replace K := (if_pos hc36).symm.trans K
                refine jx_next (pc := 386) (pc' := 387) rfl rfl ?_
                obtain rfl := Option.some.inj K
                exact jx_zret (pc := 387) rfl (Or.inl rfl) HQ
              · replace K := (if_neg hc36).symm.trans K
                refine jx_next (pc := 370) (pc' := 371) rfl rfl ?_
                refine jx_geti (pc := 371) rfl ho ?_
                refine jx_ifne (pc := 374) rfl (fun hc37 => ?_) (fun hc37 => ?_)
                · replace K := (if_pos hc37).symm.trans K
                  refine jx_next (pc := 377) (pc' := 378) rfl rfl ?_
                  refine jx_next (pc := 378) (pc' := 379) rfl rfl ?_
                  refine jx_next (pc := 379) (pc' := 380) rfl rfl ?_
                  refine jx_geti (pc := 380) rfl ho ?_
                  refine jx_callv (pc := 383) (o := o) (rest := []) rfl ⟨by decide, by decide⟩ rfl ho (Nat.le_of_ble_eq_true rfl) ?_
                  refine kM_fail hT ho (by omega) rfl ?_
                  refine jx_next (pc := 386) (pc' := 387) rfl rfl ?_
                  obtain rfl := Option.some.inj K
                  exact jx_zret (pc := 387) rfl (Or.inl rfl) HQ
                · replace K := (if_neg hc37).symm.trans K
                  refine jx_next (pc := 386) (pc' := 387) rfl rfl ?_
                  obtain rfl := Option.some.inj K
                  exact jx_zret (pc := 387) rfl (Or.inl rfl) HQ
        · replace K := (if_neg hc25).symm.trans K
          refine jx_le (pl' := [some (.ref o), none]) (jle_v (jle_n jle_nil)) ?_
          exact kM_qGoesOn_j225 hT ho hd K HQ
      · replace K := (if_neg hc23).symm.trans K
        refine jx_le (pl' := [some (.ref o), none]) (jle_v (jle_n jle_nil)) ?_
        exact kM_qGoesOn_j225 hT ho hd K HQ
    · replace K := (if_neg hc21).symm.trans K
      refine jx_le (pl' := [some (.ref o), none]) (jle_v (jle_n jle_nil)) ?_
      exact kM_qGoesOn_j140 hT ho hd K HQ
  · replace K := (if_neg hc19).symm.trans K
    refine jx_le (pl' := [some (.ref o), none]) (jle_v (jle_n jle_nil)) ?_
    exact kM_qGoesOn_j140 hT ho hd K HQ
noncomputable def fM_qSums_l15_j49 (R : jR) (o : Nat) (v1 : Int32) (s0 : Int32) (h : jH) : Option ((Int32 × jH) ⊕ (jH)) :=
  some (.inl (s0, h))
theorem kM_qSums_l15_j49 {X : jX} {d : Nat} {R : jR} {Q : Option Value → jS → Prop} {o : Nat} {v1 : Int32} {s0 : Int32} {h : jH} (hT : jTy R) (ho : jcl 176 o = 12) (hd : 6 ≤ (d + 1)) {z : (Int32 × jH) ⊕ (jH)} (K : fM_qSums_l15_j49 R o v1 s0 h = some z) (HL : ∀ s : Int32 × jH, z = .inl s → jEx X (d + 1) jc_213 15 [some (.ref o), some (.int v1), some (.int s.1)] [] (176, R, s.2) Q) (HE0 : ∀ x : jH, z = .inr x → jEx X (d + 1) jc_213 53 [some (.ref o), some (.int v1), none] [] (176, R, x) Q) :
    jEx X (d + 1) jc_213 49 [some (.ref o), some (.int v1), none] [.int s0] (176, R, h) Q := by
  unfold fM_qSums_l15_j49 at K
  refine jx_stin (pc := 49) (p2 := [some (.ref o), some (.int v1), some (.int s0)]) rfl (jlt rfl) rfl ?_
  refine jx_next (pc := 50) (pc' := 15) rfl rfl ?_
  obtain rfl := Option.some.inj K
  refine jx_le (pl' := [some (.ref o), some (.int v1), some (.int s0)]) (jle_v (jle_v (jle_v jle_nil))) ?_
  exact HL _ rfl
noncomputable def fM_qSums_l15_j48 (R : jR) (o : Nat) (v1 : Int32) (h : jH) : Option ((Int32 × jH) ⊕ (jH)) :=
  fM_qSums_l15_j49 R o v1 0 h
theorem kM_qSums_l15_j48 {X : jX} {d : Nat} {R : jR} {Q : Option Value → jS → Prop} {o : Nat} {v1 : Int32} {h : jH} (hT : jTy R) (ho : jcl 176 o = 12) (hd : 6 ≤ (d + 1)) {z : (Int32 × jH) ⊕ (jH)} (K : fM_qSums_l15_j48 R o v1 h = some z) (HL : ∀ s : Int32 × jH, z = .inl s → jEx X (d + 1) jc_213 15 [some (.ref o), some (.int v1), some (.int s.1)] [] (176, R, s.2) Q) (HE0 : ∀ x : jH, z = .inr x → jEx X (d + 1) jc_213 53 [some (.ref o), some (.int v1), none] [] (176, R, x) Q) :
    jEx X (d + 1) jc_213 48 [some (.ref o), some (.int v1), none] [] (176, R, h) Q := by
  unfold fM_qSums_l15_j48 at K
  refine jx_next (pc := 48) (pc' := 49) rfl rfl ?_
  refine jx_le (pl' := [some (.ref o), some (.int v1), none]) (jle_v (jle_v (jle_n jle_nil))) ?_
  exact kM_qSums_l15_j49 hT ho hd K HL HE0
noncomputable def fM_qSums_l15_b (R : jR) (o : Nat) (v1 : Int32) (v2 : Int32) (h : jH) : Option ((Int32 × jH) ⊕ (jH)) :=
  (if v2 = 0 then
  some (.inr h)
  else
  (if (h.1 o 5) = 0 then
  (Option.bind (fM_qPartTold R o h) (fun (z3 : jH) =>
  (if (z3.1 o 5) = 0 then
  (Option.bind (fM_qGoesOn R o z3) (fun (z5 : Int32 × jH) =>
  (if z5.1 = 0 then
  fM_qSums_l15_j48 R o v1 z5.2
  else
  fM_qSums_l15_j49 R o v1 1 z5.2)))
  else
  fM_qSums_l15_j48 R o v1 z3)))
  else
  some (.inr h)))
noncomputable def fM_qSums_l15 (R : jR) (o : Nat) (v1 : Int32) : (Int32 × jH) → Option ((Int32 × jH) ⊕ (jH)) :=
  fun (s : Int32 × jH) => fM_qSums_l15_b R o v1 s.1 s.2
theorem kM_qSums_l15_b {X : jX} {d : Nat} {R : jR} {Q : Option Value → jS → Prop} {o : Nat} {v1 : Int32} {v2 : Int32} {h : jH} (hT : jTy R) (ho : jcl 176 o = 12) (hd : 6 ≤ (d + 1)) {z : (Int32 × jH) ⊕ (jH)} (K : fM_qSums_l15_b R o v1 v2 h = some z) (HL : ∀ s : Int32 × jH, z = .inl s → jEx X (d + 1) jc_213 15 [some (.ref o), some (.int v1), some (.int s.1)] [] (176, R, s.2) Q) (HE0 : ∀ x : jH, z = .inr x → jEx X (d + 1) jc_213 53 [some (.ref o), some (.int v1), none] [] (176, R, x) Q) :
    jEx X (d + 1) jc_213 15 [some (.ref o), some (.int v1), some (.int v2)] [] (176, R, h) Q := by
  unfold fM_qSums_l15_b at K
  refine jx_next (pc := 15) (pc' := 16) rfl rfl ?_
  refine jx_ifeq (pc := 16) rfl (fun hc1 => ?_) (fun hc1 => ?_)
  · replace K := (if_pos hc1).symm.trans K
    obtain rfl := Option.some.inj K
    refine jx_le (pl' := [some (.ref o), some (.int v1), none]) (jle_v (jle_v (jle_n jle_nil))) ?_
    exact HE0 _ rfl
  · replace K := (if_neg hc1).symm.trans K
    refine jx_next (pc := 19) (pc' := 20) rfl rfl ?_
    refine jx_geti (pc := 20) rfl ho ?_
    refine jx_ifne (pc := 23) rfl (fun hc2 => ?_) (fun hc2 => ?_)
    · replace K := (if_pos hc2).symm.trans K
      refine jx_next (pc := 26) (pc' := 27) rfl rfl ?_
      refine jx_callv (pc := 27) (o := o) (rest := []) rfl ⟨by decide, by decide⟩ rfl ho (Nat.le_of_ble_eq_true rfl) ?_
      obtain ⟨z3, hz_z3, K⟩ := Option.bind_eq_some_iff.mp K
      refine kM_qPartTold hT ho (by omega) hz_z3 ?_
      refine jx_next (pc := 30) (pc' := 31) rfl rfl ?_
      refine jx_geti (pc := 31) rfl ho ?_
      refine jx_ifne (pc := 34) rfl (fun hc4 => ?_) (fun hc4 => ?_)
      · replace K := (if_pos hc4).symm.trans K
        refine jx_next (pc := 37) (pc' := 38) rfl rfl ?_
        refine jx_callv (pc := 38) (o := o) (rest := []) rfl ⟨by decide, by decide⟩ rfl ho (Nat.le_of_ble_eq_true rfl) ?_
        obtain ⟨z5, hz_z5, K⟩ := Option.bind_eq_some_iff.mp K
        refine kM_qGoesOn hT ho (by omega) hz_z5 ?_
        refine jx_ifeq (pc := 41) rfl (fun hc6 => ?_) (fun hc6 => ?_)
        · replace K := (if_pos hc6).symm.trans K
          refine jx_le (pl' := [some (.ref o), some (.int v1), none]) (jle_v (jle_v (jle_n jle_nil))) ?_
          exact kM_qSums_l15_j48 hT ho hd K HL HE0
        · replace K := (if_neg hc6).symm.trans K
          refine jx_next (pc := 44) (pc' := 45) rfl rfl ?_
          refine jx_next (pc := 45) (pc' := 49) rfl rfl ?_
          refine jx_le (pl' := [some (.ref o), some (.int v1), none]) (jle_v (jle_v (jle_n jle_nil))) ?_
          exact kM_qSums_l15_j49 hT ho hd K HL HE0
      · replace K := (if_neg hc4).symm.trans K
        refine jx_le (pl' := [some (.ref o), some (.int v1), none]) (jle_v (jle_v (jle_n jle_nil))) ?_
        exact kM_qSums_l15_j48 hT ho hd K HL HE0
    · replace K := (if_neg hc2).symm.trans K
      obtain rfl := Option.some.inj K
      refine jx_le (pl' := [some (.ref o), some (.int v1), none]) (jle_v (jle_v (jle_n jle_nil))) ?_
      exact HE0 _ rfl
theorem kM_qSums_l15_w {X : jX} {d : Nat} {R : jR} {Q : Option Value → jS → Prop} {o : Nat} {v1 : Int32} (hT : jTy R) (ho : jcl 176 o = 12) (hd : 6 ≤ (d + 1)) {s : Int32 × jH} {x : jH} (K : jlim (fM_qSums_l15 R o v1) s = some x) (HE : jEx X (d + 1) jc_213 53 [some (.ref o), some (.int v1), none] [] (176, R, x) Q) :
    jEx X (d + 1) jc_213 15 [some (.ref o), some (.int v1), some (.int s.1)] [] (176, R, s.2) Q := by
  refine jlim_ok (G := fun s : Int32 × jH => jEx X (d + 1) jc_213 15 [some (.ref o), some (.int v1), some (.int s.1)] [] (176, R, s.2) Q) (GX := fun x : jH => jEx X (d + 1) jc_213 53 [some (.ref o), some (.int v1), none] [] (176, R, x) Q) (fun s z hz HL HE => ?_) K HE
  exact kM_qSums_l15_b hT ho hd hz HL HE
noncomputable def fM_qSums_l53_b (R : jR) (o : Nat) (v1 : Int32) (h : jH) : Option ((jH) ⊕ (jH)) :=
  (if (h.1 o 5) = 0 then
  (if (h.1 o 84) < (h.1 o 82) then
  (Option.bind (fM_qDrops R o h) (fun (z10 : jH) =>
  some (.inl z10)))
  else
  some (.inr h))
  else
  some (.inr h))
noncomputable def fM_qSums_l53 (R : jR) (o : Nat) (v1 : Int32) : jH → Option ((jH) ⊕ (jH)) :=
  fun (s : jH) => fM_qSums_l53_b R o v1 s
theorem kM_qSums_l53_b {X : jX} {d : Nat} {R : jR} {Q : Option Value → jS → Prop} {o : Nat} {v1 : Int32} {h : jH} (hT : jTy R) (ho : jcl 176 o = 12) (hd : 6 ≤ (d + 1)) {z : (jH) ⊕ (jH)} (K : fM_qSums_l53_b R o v1 h = some z) (HL : ∀ s : jH, z = .inl s → jEx X (d + 1) jc_213 53 [some (.ref o), some (.int v1), none] [] (176, R, s) Q) (HE0 : ∀ x : jH, z = .inr x → jEx X (d + 1) jc_213 78 [some (.ref o), some (.int v1), none] [] (176, R, x) Q) :
    jEx X (d + 1) jc_213 53 [some (.ref o), some (.int v1), none] [] (176, R, h) Q := by
  unfold fM_qSums_l53_b at K
  refine jx_next (pc := 53) (pc' := 54) rfl rfl ?_
  refine jx_geti (pc := 54) rfl ho ?_
  refine jx_ifne (pc := 57) rfl (fun hc8 => ?_) (fun hc8 => ?_)
  · replace K := (if_pos hc8).symm.trans K
    refine jx_next (pc := 60) (pc' := 61) rfl rfl ?_
    refine jx_geti (pc := 61) rfl ho ?_
    refine jx_next (pc := 64) (pc' := 65) rfl rfl ?_
    refine jx_geti (pc := 65) rfl ho ?_
    refine jx_icle (pc := 68) rfl (fun hc9 => ?_) (fun hc9 => ?_)
    · replace K := (if_pos hc9).symm.trans K
      refine jx_next (pc := 71) (pc' := 72) rfl rfl ?_
      refine jx_callv (pc := 72) (o := o) (rest := []) rfl ⟨by decide, by decide⟩ rfl ho (Nat.le_of_ble_eq_true rfl) ?_
      obtain ⟨z10, hz_z10, K⟩ := Option.bind_eq_some_iff.mp K
      refine kM_qDrops hT ho (by omega) hz_z10 ?_
      refine jx_next (pc := 75) (pc' := 53) rfl rfl ?_
      obtain rfl := Option.some.inj K
      refine jx_le (pl' := [some (.ref o), some (.int v1), none]) (jle_v (jle_v (jle_n jle_nil))) ?_
      exact HL _ rfl
    · replace K := (if_neg hc9).symm.trans K
      obtain rfl := Option.some.inj K
      refine jx_le (pl' := [some (.ref o), some (.int v1), none]) (jle_v (jle_v (jle_n jle_nil))) ?_
      exact HE0 _ rfl
  · replace K := (if_neg hc8).symm.trans K
    obtain rfl := Option.some.inj K
    refine jx_le (pl' := [some (.ref o), some (.int v1), none]) (jle_v (jle_v (jle_n jle_nil))) ?_
    exact HE0 _ rfl
theorem kM_qSums_l53_w {X : jX} {d : Nat} {R : jR} {Q : Option Value → jS → Prop} {o : Nat} {v1 : Int32} (hT : jTy R) (ho : jcl 176 o = 12) (hd : 6 ≤ (d + 1)) {s : jH} {x : jH} (K : jlim (fM_qSums_l53 R o v1) s = some x) (HE : jEx X (d + 1) jc_213 78 [some (.ref o), some (.int v1), none] [] (176, R, x) Q) :
    jEx X (d + 1) jc_213 53 [some (.ref o), some (.int v1), none] [] (176, R, s) Q := by
  refine jlim_ok (G := fun s : jH => jEx X (d + 1) jc_213 53 [some (.ref o), some (.int v1), none] [] (176, R, s) Q) (GX := fun x : jH => jEx X (d + 1) jc_213 78 [some (.ref o), some (.int v1), none] [] (176, R, x) Q) (fun s z hz HL HE => ?_) K HE
  exact kM_qSums_l53_b hT ho hd hz HL HE
/-- AndGuestModel.qSums()V -/
noncomputable def fM_qSums (R : jR) (o : Nat) (h : jH) : Option jH :=
  (Option.bind (jlim (fM_qSums_l15 R o (h.1 o 84)) (1, jhI h o 84 (h.1 o 82))) (fun (x7 : jH) =>
  (Option.bind (jlim (fM_qSums_l53 R o (h.1 o 84)) x7) (fun (x11 : jH) =>
  some (jhI x11 o 84 (h.1 o 84))))))
theorem kM_qSums {X : jX} {d : Nat} {R : jR} {Q : Option Value → jS → Prop} {o : Nat} {h : jH} (hT : jTy R) (ho : jcl 176 o = 12) (hd : 6 ≤ d) {z : jH} (K : fM_qSums R o h = some z) (HQ : Q none (176, R, z)) :
    jCa X d 213 [.ref o] (176, R, h) Q := by
  obtain ⟨d, rfl⟩ : ∃ d9, d = d9 + 1 := ⟨d - 1, by omega⟩
  unfold fM_qSums at K
  refine jCa_of (es := jc_213) (pl := [some (.ref o), none, none]) (M := jm_213) rfl rfl rfl rfl ?_
  refine jx_next (pc := 0) (pc' := 1) rfl rfl ?_
  refine jx_geti (pc := 1) rfl ho ?_
  refine jx_stin (pc := 4) (p2 := [some (.ref o), some (.int (h.1 o 84)), none]) rfl (jlt rfl) rfl ?_
  refine jx_next (pc := 5) (pc' := 6) rfl rfl ?_
  refine jx_next (pc := 6) (pc' := 7) rfl rfl ?_
  refine jx_geti (pc := 7) rfl ho ?_
  refine jx_puti (pc := 10) rfl ho ?_
  refine jx_next (pc := 13) (pc' := 14) rfl rfl ?_
  refine jx_stin (pc := 14) (p2 := [some (.ref o), some (.int (h.1 o 84)), some (.int 1)]) rfl (jlt rfl) rfl ?_
  refine jx_le (pl' := [some (.ref o), some (.int (h.1 o 84)), some (.int 1)]) (jle_v (jle_v (jle_v jle_nil))) ?_
  obtain ⟨x7, hz_x7, K⟩ := Option.bind_eq_some_iff.mp K
  refine kM_qSums_l15_w hT ho hd hz_x7 ?_
  refine jx_le (pl' := [some (.ref o), some (.int (h.1 o 84)), none]) (jle_v (jle_v (jle_n jle_nil))) ?_
  obtain ⟨x11, hz_x11, K⟩ := Option.bind_eq_some_iff.mp K
  refine kM_qSums_l53_w hT ho hd hz_x11 ?_
  refine jx_next (pc := 78) (pc' := 79) rfl rfl ?_
  refine jx_next (pc := 79) (pc' := 80) rfl rfl ?_
  refine jx_puti (pc := 80) rfl ho ?_
  obtain rfl := Option.some.inj K
  exact jx_ret (pc := 83) rfl rfl HQ
noncomputable def fM_lateTold_l80_b (R : jR) (o : Nat) (v2 : Int32) (h : jH) : Option ((Int32 × jH) ⊕ (jH)) :=
  (if v2 < (h.1 o 80) then
  (if jin v2 (jsh (R o 79)).2 then
  (if jin (h.1 o 46) (jsh (R o 45)).2 then
  some (.inl (v2 + 1, jhI (jhI h (R o 45) (h.1 o 46).toNatClampNeg (h.1 (R o 79) v2.toNatClampNeg)) o 46 (((jhI h (R o 45) (h.1 o 46).toNatClampNeg (h.1 (R o 79) v2.toNatClampNeg)).1 o 46) + 1)))
  else none)
  else none)
  else
  some (.inr h))
noncomputable def fM_lateTold_l80 (R : jR) (o : Nat) : (Int32 × jH) → Option ((Int32 × jH) ⊕ (jH)) :=
  fun (s : Int32 × jH) => fM_lateTold_l80_b R o s.1 s.2
theorem kM_lateTold_l80_b {X : jX} {d : Nat} {R : jR} {Q : Option Value → jS → Prop} {o : Nat} {v2 : Int32} {h : jH} (hT : jTy R) (ho : jcl 176 o = 12) (hd : 7 ≤ (d + 1)) {z : (Int32 × jH) ⊕ (jH)} (K : fM_lateTold_l80_b R o v2 h = some z) (HL : ∀ s : Int32 × jH, z = .inl s → jEx X (d + 1) jc_212 80 [some (.ref o), none, some (.int s.1)] [] (176, R, s.2) Q) (HE0 : ∀ x : jH, z = .inr x → jEx X (d + 1) jc_212 119 [some (.ref o), none, none] [] (176, R, x) Q) :
    jEx X (d + 1) jc_212 80 [some (.ref o), none, some (.int v2)] [] (176, R, h) Q := by
  unfold fM_lateTold_l80_b at K
  refine jx_next (pc := 80) (pc' := 81) rfl rfl ?_
  refine jx_next (pc := 81) (pc' := 82) rfl rfl ?_
  refine jx_geti (pc := 82) rfl ho ?_
  refine jx_icge (pc := 85) rfl (fun hc8 => ?_) (fun hc8 => ?_)
  · replace K := (if_pos hc8).symm.trans K
    refine jx_next (pc := 88) (pc' := 89) rfl rfl ?_
    refine jx_getr (pc := 89) rfl ho ?_
    refine jx_next (pc := 92) (pc' := 93) rfl rfl ?_
    refine jx_geti (pc := 93) rfl ho ?_
    refine jx_next (pc := 96) (pc' := 97) rfl rfl ?_
    refine jx_getr (pc := 97) rfl ho ?_
    refine jx_next (pc := 100) (pc' := 101) rfl rfl ?_
    obtain ⟨hg9, K⟩ := jguard K
    refine jx_iald (pc := 101) rfl (jtR hT ho (k := 79) (c := 20) rfl) hg9 ?_
    obtain ⟨hg10, K⟩ := jguard K
    refine jx_iast (pc := 102) rfl (jtR hT ho (k := 45) (c := 20) rfl) hg10 ?_
    refine jx_next (pc := 103) (pc' := 104) rfl rfl ?_
    refine jx_next (pc := 104) (pc' := 105) rfl rfl ?_
    refine jx_geti (pc := 105) rfl ho ?_
    refine jx_next (pc := 108) (pc' := 109) rfl rfl ?_
    refine jx_next (pc := 109) (pc' := 110) rfl rfl ?_
    refine jx_puti (pc := 110) rfl ho ?_
    refine jx_inc (pc := 113) (x := v2) (p2 := [some (.ref o), none, some (.int (v2 + 1))]) rfl rfl (jlt rfl) rfl ?_
    refine jx_next (pc := 116) (pc' := 80) rfl rfl ?_
    obtain rfl := Option.some.inj K
    refine jx_le (pl' := [some (.ref o), none, some (.int (v2 + 1))]) (jle_v (jle_n (jle_v jle_nil))) ?_
    exact HL _ rfl
  · replace K := (if_neg hc8).symm.trans K
    obtain rfl := Option.some.inj K
    refine jx_le (pl' := [some (.ref o), none, none]) (jle_v (jle_n (jle_n jle_nil))) ?_
    exact HE0 _ rfl
theorem kM_lateTold_l80_w {X : jX} {d : Nat} {R : jR} {Q : Option Value → jS → Prop} {o : Nat} (hT : jTy R) (ho : jcl 176 o = 12) (hd : 7 ≤ (d + 1)) {s : Int32 × jH} {x : jH} (K : jlim (fM_lateTold_l80 R o) s = some x) (HE : jEx X (d + 1) jc_212 119 [some (.ref o), none, none] [] (176, R, x) Q) :
    jEx X (d + 1) jc_212 80 [some (.ref o), none, some (.int s.1)] [] (176, R, s.2) Q := by
  refine jlim_ok (G := fun s : Int32 × jH => jEx X (d + 1) jc_212 80 [some (.ref o), none, some (.int s.1)] [] (176, R, s.2) Q) (GX := fun x : jH => jEx X (d + 1) jc_212 119 [some (.ref o), none, none] [] (176, R, x) Q) (fun s z hz HL HE => ?_) K HE
  exact kM_lateTold_l80_b hT ho hd hz HL HE
noncomputable def fM_lateTold_j23 (R : jR) (o : Nat) (h : jH) : Option jH :=
  (if (h.1 o 5) = 0 then
  (Option.bind (fM_qSums R o (jhI (jhI (jhI (jhI (jhI h o 49 1) o 80 0) o 82 0) o 83 0) o 84 0)) (fun (z5 : jH) =>
  (if (z5.1 o 5) = 0 then
  (if jin 0 (jsh (R o 43)).2 then
  (Option.bind (jlim (fM_lateTold_l80 R o) (0, jhI z5 (R o 43) (0 : Int32).toNatClampNeg (z5.1 o 46))) (fun (x11 : jH) =>
  (if jin 0 (jsh (R o 44)).2 then
  some (jhI x11 (R o 44) (0 : Int32).toNatClampNeg (x11.1 o 46))
  else none)))
  else none)
  else
  some z5)))
  else
  some h)
theorem kM_lateTold_j23 {X : jX} {d : Nat} {R : jR} {Q : Option Value → jS → Prop} {o : Nat} {h : jH} (hT : jTy R) (ho : jcl 176 o = 12) (hd : 7 ≤ (d + 1)) {z : jH} (K : fM_lateTold_j23 R o h = some z) (HQ : Q none (176, R, z)) :
    jEx X (d + 1) jc_212 23 [some (.ref o), none, none] [] (176, R, h) Q := by
  unfold fM_lateTold_j23 at K
  refine jx_next (pc := 23) (pc' := 24) rfl rfl ?_
  refine jx_geti (pc := 24) rfl ho ?_
  refine jx_ifeq (pc := 27) rfl (fun hc4 => ?_) (fun hc4 => ?_)
  · replace K := (if_pos hc4).symm.trans K
    refine jx_next (pc := 31) (pc' := 32) rfl rfl ?_
    refine jx_next (pc := 32) (pc' := 33) rfl rfl ?_
    refine jx_putz (pc := 33) rfl ho (Or.inr rfl) ?_
    refine jx_next (pc := 36) (pc' := 37) rfl rfl ?_
    refine jx_next (pc := 37) (pc' := 38) rfl rfl ?_
    refine jx_puti (pc := 38) rfl ho ?_
    refine jx_next (pc := 41) (pc' := 42) rfl rfl ?_
    refine jx_next (pc := 42) (pc' := 43) rfl rfl ?_
    refine jx_puti (pc := 43) rfl ho ?_
    refine jx_next (pc := 46) (pc' := 47) rfl rfl ?_
    refine jx_next (pc := 47) (pc' := 48) rfl rfl ?_
    refine jx_puti (pc := 48) rfl ho ?_
    refine jx_next (pc := 51) (pc' := 52) rfl rfl ?_
    refine jx_next (pc := 52) (pc' := 53) rfl rfl ?_
    refine jx_puti (pc := 53) rfl ho ?_
    refine jx_next (pc := 56) (pc' := 57) rfl rfl ?_
    refine jx_callv (pc := 57) (o := o) (rest := []) rfl ⟨by decide, by decide⟩ rfl ho (Nat.le_of_ble_eq_true rfl) ?_
    obtain ⟨z5, hz_z5, K⟩ := Option.bind_eq_some_iff.mp K
    refine kM_qSums hT ho (by omega) hz_z5 ?_
    refine jx_next (pc := 60) (pc' := 61) rfl rfl ?_
    refine jx_geti (pc := 61) rfl ho ?_
    refine jx_ifeq (pc := 64) rfl (fun hc6 => ?_) (fun hc6 => ?_)
    · replace K := (if_pos hc6).symm.trans K
      refine jx_next (pc := 68) (pc' := 69) rfl rfl ?_
      refine jx_getr (pc := 69) rfl ho ?_
      refine jx_next (pc := 72) (pc' := 73) rfl rfl ?_
      refine jx_next (pc := 73) (pc' := 74) rfl rfl ?_
      refine jx_geti (pc := 74) rfl ho ?_
      obtain ⟨hg7, K⟩ := jguard K
      refine jx_iast (pc := 77) rfl (jtR hT ho (k := 43) (c := 20) rfl) hg7 ?_
      refine jx_next (pc := 78) (pc' := 79) rfl rfl ?_
      refine jx_stin (pc := 79) (p2 := [some (.ref o), none, some (.int 0)]) rfl (jlt rfl) rfl ?_
      refine jx_le (pl' := [some (.ref o), none, some (.int 0)]) (jle_v (jle_n (jle_v jle_nil))) ?_
      obtain ⟨x11, hz_x11, K⟩ := Option.bind_eq_some_iff.mp K
      refine kM_lateTold_l80_w hT ho hd hz_x11 ?_
      refine jx_next (pc := 119) (pc' := 120) rfl rfl ?_
      refine jx_getr (pc := 120) rfl ho ?_
      refine jx_next (pc := 123) (pc' := 124) rfl rfl ?_
      refine jx_next (pc := 124) (pc' := 125) rfl rfl ?_
      refine jx_geti (pc := 125) rfl ho ?_
      obtain ⟨hg12, K⟩ := jguard K
      refine jx_iast (pc := 128) rfl (jtR hT ho (k := 44) (c := 20) rfl) hg12 ?_
      obtain rfl := Option.some.inj K
      exact jx_ret (pc := 129) rfl rfl HQ
    · replace K := (if_neg hc6).symm.trans K
      obtain rfl := Option.some.inj K
      exact jx_ret (pc := 67) rfl rfl HQ
  · replace K := (if_neg hc4).symm.trans K
    obtain rfl := Option.some.inj K
    exact jx_ret (pc := 30) rfl rfl HQ
/-- AndGuestModel.lateTold(I)V -/
noncomputable def fM_lateTold (R : jR) (o : Nat) (v1 : Int32) (h : jH) : Option jH :=
  (if (h.1 o 5) = 0 then
  (if jin 0 (jsh (R o 43)).2 then
  (if (h.1 (R o 43) (0 : Int32).toNatClampNeg) = (-1) then
  fM_lateTold_j23 R o h
  else
  fM_lateTold_j23 R o (fM_fail R o 5 v1 h))
  else none)
  else
  fM_lateTold_j23 R o h)
theorem kM_lateTold {X : jX} {d : Nat} {R : jR} {Q : Option Value → jS → Prop} {o : Nat} {v1 : Int32} {h : jH} (hT : jTy R) (ho : jcl 176 o = 12) (hd : 7 ≤ d) {z : jH} (K : fM_lateTold R o v1 h = some z) (HQ : Q none (176, R, z)) :
    jCa X d 212 [.ref o, .int v1] (176, R, h) Q := by
  obtain ⟨d, rfl⟩ : ∃ d9, d = d9 + 1 := ⟨d - 1, by omega⟩
  unfold fM_lateTold at K
  refine jCa_of (es := jc_212) (pl := [some (.ref o), some (.int v1), none]) (M := jm_212) rfl rfl rfl rfl ?_
  refine jx_next (pc := 0) (pc' := 1) rfl rfl ?_
  refine jx_geti (pc := 1) rfl ho ?_
  refine jx_ifne (pc := 4) rfl (fun hc1 => ?_) (fun hc1 => ?_)
  · replace K := (if_pos hc1).symm.trans K
    refine jx_next (pc := 7) (pc' := 8) rfl rfl ?_
    refine jx_getr (pc := 8) rfl ho ?_
    refine jx_next (pc := 11) (pc' := 12) rfl rfl ?_
    obtain ⟨hg2, K⟩ := jguard K
    refine jx_iald (pc := 12) rfl (jtR hT ho (k := 43) (c := 20) rfl) hg2 ?_
    refine jx_next (pc := 13) (pc' := 14) rfl rfl ?_
    refine jx_iceq (pc := 14) rfl (fun hc3 => ?_) (fun hc3 => ?_)
    · replace K := (if_pos hc3).symm.trans K
      refine jx_le (pl' := [some (.ref o), none, none]) (jle_v (jle_n (jle_n jle_nil))) ?_
      exact kM_lateTold_j23 hT ho hd K HQ
    · replace K := (if_neg hc3).symm.trans K
      refine jx_next (pc := 17) (pc' := 18) rfl rfl ?_
      refine jx_next (pc := 18) (pc' := 19) rfl rfl ?_
      refine jx_next (pc := 19) (pc' := 20) rfl rfl ?_
      refine jx_callv (pc := 20) (o := o) (rest := []) rfl ⟨by decide, by decide⟩ rfl ho (Nat.le_of_ble_eq_true rfl) ?_
      refine kM_fail hT ho (by omega) rfl ?_
      refine jx_le (pl' := [some (.ref o), none, none]) (jle_v (jle_n (jle_n jle_nil))) ?_
      exact kM_lateTold_j23 hT ho hd K HQ
  · replace K := (if_neg hc1).symm.trans K
    refine jx_le (pl' := [some (.ref o), none, none]) (jle_v (jle_n (jle_n jle_nil))) ?_
    exact kM_lateTold_j23 hT ho hd K HQ
noncomputable def fM_statementTold_j172 (R : jR) (o : Nat) (h : jH) : Option jH :=
  (Option.bind (fM_asksSign R o 59 h) (fun (z18 : jH) =>
  some (jhI z18 o 47 ((z18.1 o 47) + 1))))
theorem kM_statementTold_j172 {X : jX} {d : Nat} {R : jR} {Q : Option Value → jS → Prop} {o : Nat} {h : jH} (hT : jTy R) (ho : jcl 176 o = 12) (hd : 8 ≤ (d + 1)) {z : jH} (K : fM_statementTold_j172 R o h = some z) (HQ : Q none (176, R, z)) :
    jEx X (d + 1) jc_203 172 [some (.ref o), none] [] (176, R, h) Q := by
  unfold fM_statementTold_j172 at K
  refine jx_next (pc := 172) (pc' := 173) rfl rfl ?_
  refine jx_next (pc := 173) (pc' := 175) rfl rfl ?_
  refine jx_callv (pc := 175) (o := o) (rest := []) rfl ⟨by decide, by decide⟩ rfl ho (Nat.le_of_ble_eq_true rfl) ?_
  obtain ⟨z18, hz_z18, K⟩ := Option.bind_eq_some_iff.mp K
  refine kM_asksSign hT ho (by omega) hz_z18 ?_
  refine jx_next (pc := 178) (pc' := 179) rfl rfl ?_
  refine jx_next (pc := 179) (pc' := 180) rfl rfl ?_
  refine jx_geti (pc := 180) rfl ho ?_
  refine jx_next (pc := 183) (pc' := 184) rfl rfl ?_
  refine jx_next (pc := 184) (pc' := 185) rfl rfl ?_
  refine jx_puti (pc := 185) rfl ho ?_
  obtain rfl := Option.some.inj K
  exact jx_ret (pc := 188) rfl rfl HQ
/-- AndGuestModel.statementTold()V -/
noncomputable def fM_statementTold (R : jR) (o : Nat) (h : jH) : Option jH :=
  (if (h.1 o 47) = 60 then
  some (fM_fail R o 5 (h.1 o 2) h)
  else
  (Option.bind (fM_takes R o (R o 14) h) (fun (z3 : Int32 × jH) =>
  (if z3.1 = 0 then
  (Option.bind (fM_takes R o (R o 19) z3.2) (fun (z5 : Int32 × jH) =>
  (if z5.1 = 0 then
  (Option.bind (fM_takes R o (R o 20) z5.2) (fun (z7 : Int32 × jH) =>
  (if z7.1 = 0 then
  (Option.bind (fM_takes R o (R o 21) z7.2) (fun (z9 : Int32 × jH) =>
  (if z9.1 = 0 then
  (Option.bind (fM_takes R o (R o 22) z9.2) (fun (z11 : Int32 × jH) =>
  (if z11.1 = 0 then
  (Option.bind (fM_takes R o (R o 23) z11.2) (fun (z13 : Int32 × jH) =>
  (if z13.1 = 0 then
  (Option.bind (fM_asks R o (R o 24) z13.2) (fun (z15 : jH) =>
  (Option.bind (fM_number R o 0 9 z15) (fun (z16 : Int32 × jH) =>
  (if jin 2 (jsh (R o 42)).2 then
  fM_statementTold_j172 R o (jhI z16.2 (R o 42) (2 : Int32).toNatClampNeg z16.1)
  else none)))))
  else
  (Option.bind (fM_number R o 0 100 z13.2) (fun (z19 : Int32 × jH) =>
  (if jin 1 (jsh (R o 42)).2 then
  fM_statementTold_j172 R o (jhI z19.2 (R o 42) (1 : Int32).toNatClampNeg z19.1)
  else none))))))
  else
  (Option.bind (fM_number R o 0 10 z11.2) (fun (z21 : Int32 × jH) =>
  (if jin 0 (jsh (R o 42)).2 then
  fM_statementTold_j172 R o (jhI z21.2 (R o 42) (0 : Int32).toNatClampNeg z21.1)
  else none))))))
  else
  (Option.bind (fM_lateTold R o (h.1 o 2) z9.2) (fun (z23 : jH) =>
  fM_statementTold_j172 R o z23)))))
  else
  (Option.bind (fM_hearTold R o (h.1 o 2) z7.2) (fun (z24 : jH) =>
  fM_statementTold_j172 R o z24)))))
  else
  (Option.bind (fM_pullTold R o (h.1 o 2) z5.2) (fun (z25 : jH) =>
  fM_statementTold_j172 R o z25)))))
  else
  (Option.bind (fM_guestTold R o (h.1 o 2) z3.2) (fun (z26 : jH) =>
  fM_statementTold_j172 R o z26))))))
theorem kM_statementTold {X : jX} {d : Nat} {R : jR} {Q : Option Value → jS → Prop} {o : Nat} {h : jH} (hT : jTy R) (ho : jcl 176 o = 12) (hd : 8 ≤ d) {z : jH} (K : fM_statementTold R o h = some z) (HQ : Q none (176, R, z)) :
    jCa X d 203 [.ref o] (176, R, h) Q := by
  obtain ⟨d, rfl⟩ : ∃ d9, d = d9 + 1 := ⟨d - 1, by omega⟩
  unfold fM_statementTold at K
  refine jCa_of (es := jc_203) (pl := [some (.ref o), none]) (M := jm_203) rfl rfl rfl rfl ?_
  refine jx_next (pc := 0) (pc' := 1) rfl rfl ?_
  refine jx_geti (pc := 1) rfl ho ?_
  refine jx_stin (pc := 4) (p2 := [some (.ref o), some (.int (h.1 o 2))]) rfl (jlt rfl) rfl ?_
  refine jx_next (pc := 5) (pc' := 6) rfl rfl ?_
  refine jx_geti (pc := 6) rfl ho ?_
  refine jx_next (pc := 9) (pc' := 11) rfl rfl ?_
  refine jx_icne (pc := 11) rfl (fun hc1 => ?_) (fun hc1 => ?_)
  · replace K := (if_pos hc1).symm.trans K
    refine jx_next (pc := 14) (pc' := 15) rfl rfl ?_
    refine jx_next (pc := 15) (pc' := 16) rfl rfl ?_
    refine jx_next (pc := 16) (pc' := 17) rfl rfl ?_
    refine jx_callv (pc := 17) (o := o) (rest := []) rfl ⟨by decide, by decide⟩ rfl ho (Nat.le_of_ble_eq_true rfl) ?_
    refine kM_fail hT ho (by omega) rfl ?_
    obtain rfl := Option.some.inj K
    exact jx_ret (pc := 20) rfl rfl HQ
  · replace K := (if_neg hc1).symm.trans K
    refine jx_next (pc := 21) (pc' := 22) rfl rfl ?_
    refine jx_next (pc := 22) (pc' := 23) rfl rfl ?_
    refine jx_getr (pc := 23) rfl ho ?_
    refine jx_callv (pc := 26) (o := o) (rest := []) rfl ⟨by decide, by decide⟩ rfl ho (Nat.le_of_ble_eq_true rfl) ?_
    obtain ⟨z3, hz_z3, K⟩ := Option.bind_eq_some_iff.mp K
    refine kM_takes hT ho (jtR hT ho (k := 14) (c := 22) rfl) (by omega) hz_z3 ?_
    refine jx_ifeq (pc := 29) rfl (fun hc4 => ?_) (fun hc4 => ?_)
    · replace K := (if_pos hc4).symm.trans K
      refine jx_next (pc := 40) (pc' := 41) rfl rfl ?_
      refine jx_next (pc := 41) (pc' := 42) rfl rfl ?_
      refine jx_getr (pc := 42) rfl ho ?_
      refine jx_callv (pc := 45) (o := o) (rest := []) rfl ⟨by decide, by decide⟩ rfl ho (Nat.le_of_ble_eq_true rfl) ?_
      obtain ⟨z5, hz_z5, K⟩ := Option.bind_eq_some_iff.mp K
      refine kM_takes hT ho (jtR hT ho (k := 19) (c := 22) rfl) (by omega) hz_z5 ?_
      refine jx_ifeq (pc := 48) rfl (fun hc6 => ?_) (fun hc6 => ?_)
      · replace K := (if_pos hc6).symm.trans K
        refine jx_next (pc := 59) (pc' := 60) rfl rfl ?_
        refine jx_next (pc := 60) (pc' := 61) rfl rfl ?_
        refine jx_getr (pc := 61) rfl ho ?_
        refine jx_callv (pc := 64) (o := o) (rest := []) rfl ⟨by decide, by decide⟩ rfl ho (Nat.le_of_ble_eq_true rfl) ?_
        obtain ⟨z7, hz_z7, K⟩ := Option.bind_eq_some_iff.mp K
        refine kM_takes hT ho (jtR hT ho (k := 20) (c := 22) rfl) (by omega) hz_z7 ?_
        refine jx_ifeq (pc := 67) rfl (fun hc8 => ?_) (fun hc8 => ?_)
        · replace K := (if_pos hc8).symm.trans K
          refine jx_next (pc := 78) (pc' := 79) rfl rfl ?_
          refine jx_next (pc := 79) (pc' := 80) rfl rfl ?_
          refine jx_getr (pc := 80) rfl ho ?_
          refine jx_callv (pc := 83) (o := o) (rest := []) rfl ⟨by decide, by decide⟩ rfl ho (Nat.le_of_ble_eq_true rfl) ?_
          obtain ⟨z9, hz_z9, K⟩ := Option.bind_eq_some_iff.mp K
          refine kM_takes hT ho (jtR hT ho (k := 21) (c := 22) rfl) (by omega) hz_z9 ?_
          refine jx_ifeq (pc := 86) rfl (fun hc10 => ?_) (fun hc10 => ?_)
          · replace K := (if_pos hc10).symm.trans K
            refine jx_next (pc := 97) (pc' := 98) rfl rfl ?_
            refine jx_next (pc := 98) (pc' := 99) rfl rfl ?_
            refine jx_getr (pc := 99) rfl ho ?_
            refine jx_callv (pc := 102) (o := o) (rest := []) rfl ⟨by decide, by decide⟩ rfl ho (Nat.le_of_ble_eq_true rfl) ?_
            obtain ⟨z11, hz_z11, K⟩ := Option.bind_eq_some_iff.mp K
            refine kM_takes hT ho (jtR hT ho (k := 22) (c := 22) rfl) (by omega) hz_z11 ?_
            refine jx_ifeq (pc := 105) rfl (fun hc12 => ?_) (fun hc12 => ?_)
            · replace K := (if_pos hc12).symm.trans K
              refine jx_next (pc := 124) (pc' := 125) rfl rfl ?_
              refine jx_next (pc := 125) (pc' := 126) rfl rfl ?_
              refine jx_getr (pc := 126) rfl ho ?_
              refine jx_callv (pc := 129) (o := o) (rest := []) rfl ⟨by decide, by decide⟩ rfl ho (Nat.le_of_ble_eq_true rfl) ?_
              obtain ⟨z13, hz_z13, K⟩ := Option.bind_eq_some_iff.mp K
              refine kM_takes hT ho (jtR hT ho (k := 23) (c := 22) rfl) (by omega) hz_z13 ?_
              refine jx_ifeq (pc := 132) rfl (fun hc14 => ?_) (fun hc14 => ?_)
              · replace K := (if_pos hc14).symm.trans K
                refine jx_next (pc := 151) (pc' := 152) rfl rfl ?_
                refine jx_next (pc := 152) (pc' := 153) rfl rfl ?_
                refine jx_getr (pc := 153) rfl ho ?_
                refine jx_callv (pc := 156) (o := o) (rest := []) rfl ⟨by decide, by decide⟩ rfl ho (Nat.le_of_ble_eq_true rfl) ?_
                obtain ⟨z15, hz_z15, K⟩ := Option.bind_eq_some_iff.mp K
                refine kM_asks hT ho (jtR hT ho (k := 24) (c := 22) rfl) (by omega) hz_z15 ?_
                refine jx_next (pc := 159) (pc' := 160) rfl rfl ?_
                refine jx_getr (pc := 160) rfl ho ?_
                refine jx_next (pc := 163) (pc' := 164) rfl rfl ?_
                refine jx_next (pc := 164) (pc' := 165) rfl rfl ?_
                refine jx_next (pc := 165) (pc' := 166) rfl rfl ?_
                refine jx_next (pc := 166) (pc' := 168) rfl rfl ?_
                refine jx_callv (pc := 168) (o := o) (rest := [.int 2, .ref (R o 42)]) rfl ⟨by decide, by decide⟩ rfl ho (Nat.le_of_ble_eq_true rfl) ?_
                obtain ⟨z16, hz_z16, K⟩ := Option.bind_eq_some_iff.mp K
                refine kM_number hT ho (by omega) hz_z16 ?_
                obtain ⟨hg17, K⟩ := jguard K
                refine jx_iast (pc := 171) rfl (jtR hT ho (k := 42) (c := 20) rfl) hg17 ?_
                refine jx_le (pl' := [some (.ref o), none]) (jle_v (jle_n jle_nil)) ?_
                exact kM_statementTold_j172 hT ho hd K HQ
              · replace K := (if_neg hc14).symm.trans K
                refine jx_next (pc := 135) (pc' := 136) rfl rfl ?_
                refine jx_getr (pc := 136) rfl ho ?_
                refine jx_next (pc := 139) (pc' := 140) rfl rfl ?_
                refine jx_next (pc := 140) (pc' := 141) rfl rfl ?_
                refine jx_next (pc := 141) (pc' := 142) rfl rfl ?_
                refine jx_next (pc := 142) (pc' := 144) rfl rfl ?_
                refine jx_callv (pc := 144) (o := o) (rest := [.int 1, .ref (R o 42)]) rfl ⟨by decide, by decide⟩ rfl ho (Nat.le_of_ble_eq_true rfl) ?_
                obtain ⟨z19, hz_z19, K⟩ := Option.bind_eq_some_iff.mp K
                refine kM_number hT ho (by omega) hz_z19 ?_
                obtain ⟨hg20, K⟩ := jguard K
                refine jx_iast (pc := 147) rfl (jtR hT ho (k := 42) (c := 20) rfl) hg20 ?_
                refine jx_next (pc := 148) (pc' := 172) rfl rfl ?_
                refine jx_le (pl' := [some (.ref o), none]) (jle_v (jle_n jle_nil)) ?_
                exact kM_statementTold_j172 hT ho hd K HQ
            · replace K := (if_neg hc12).symm.trans K
              refine jx_next (pc := 108) (pc' := 109) rfl rfl ?_
              refine jx_getr (pc := 109) rfl ho ?_
              refine jx_next (pc := 112) (pc' := 113) rfl rfl ?_
              refine jx_next (pc := 113) (pc' := 114) rfl rfl ?_
              refine jx_next (pc := 114) (pc' := 115) rfl rfl ?_
              refine jx_next (pc := 115) (pc' := 117) rfl rfl ?_
              refine jx_callv (pc := 117) (o := o) (rest := [.int 0, .ref (R o 42)]) rfl ⟨by decide, by decide⟩ rfl ho (Nat.le_of_ble_eq_true rfl) ?_
              obtain ⟨z21, hz_z21, K⟩ := Option.bind_eq_some_iff.mp K
              refine kM_number hT ho (by omega) hz_z21 ?_
              obtain ⟨hg22, K⟩ := jguard K
              refine jx_iast (pc := 120) rfl (jtR hT ho (k := 42) (c := 20) rfl) hg22 ?_
              refine jx_next (pc := 121) (pc' := 172) rfl rfl ?_
              refine jx_le (pl' := [some (.ref o), none]) (jle_v (jle_n jle_nil)) ?_
              exact kM_statementTold_j172 hT ho hd K HQ
          · replace K := (if_neg hc10).symm.trans K
            refine jx_next (pc := 89) (pc' := 90) rfl rfl ?_
            refine jx_next (pc := 90) (pc' := 91) rfl rfl ?_
            refine jx_callv (pc := 91) (o := o) (rest := []) rfl ⟨by decide, by decide⟩ rfl ho (Nat.le_of_ble_eq_true rfl) ?_
            obtain ⟨z23, hz_z23, K⟩ := Option.bind_eq_some_iff.mp K
            refine kM_lateTold hT ho (by omega) hz_z23 ?_
            refine jx_next (pc := 94) (pc' := 172) rfl rfl ?_
            refine jx_le (pl' := [some (.ref o), none]) (jle_v (jle_n jle_nil)) ?_
            exact kM_statementTold_j172 hT ho hd K HQ
        · replace K := (if_neg hc8).symm.trans K
          refine jx_next (pc := 70) (pc' := 71) rfl rfl ?_
          refine jx_next (pc := 71) (pc' := 72) rfl rfl ?_
          refine jx_callv (pc := 72) (o := o) (rest := []) rfl ⟨by decide, by decide⟩ rfl ho (Nat.le_of_ble_eq_true rfl) ?_
          obtain ⟨z24, hz_z24, K⟩ := Option.bind_eq_some_iff.mp K
          refine kM_hearTold hT ho (by omega) hz_z24 ?_
          refine jx_next (pc := 75) (pc' := 172) rfl rfl ?_
          refine jx_le (pl' := [some (.ref o), none]) (jle_v (jle_n jle_nil)) ?_
          exact kM_statementTold_j172 hT ho hd K HQ
      · replace K := (if_neg hc6).symm.trans K
        refine jx_next (pc := 51) (pc' := 52) rfl rfl ?_
        refine jx_next (pc := 52) (pc' := 53) rfl rfl ?_
        refine jx_callv (pc := 53) (o := o) (rest := []) rfl ⟨by decide, by decide⟩ rfl ho (Nat.le_of_ble_eq_true rfl) ?_
        obtain ⟨z25, hz_z25, K⟩ := Option.bind_eq_some_iff.mp K
        refine kM_pullTold hT ho (by omega) hz_z25 ?_
        refine jx_next (pc := 56) (pc' := 172) rfl rfl ?_
        refine jx_le (pl' := [some (.ref o), none]) (jle_v (jle_n jle_nil)) ?_
        exact kM_statementTold_j172 hT ho hd K HQ
    · replace K := (if_neg hc4).symm.trans K
      refine jx_next (pc := 32) (pc' := 33) rfl rfl ?_
      refine jx_next (pc := 33) (pc' := 34) rfl rfl ?_
      refine jx_callv (pc := 34) (o := o) (rest := []) rfl ⟨by decide, by decide⟩ rfl ho (Nat.le_of_ble_eq_true rfl) ?_
      obtain ⟨z26, hz_z26, K⟩ := Option.bind_eq_some_iff.mp K
      refine kM_guestTold hT ho (by omega) hz_z26 ?_
      refine jx_next (pc := 37) (pc' := 172) rfl rfl ?_
      refine jx_le (pl' := [some (.ref o), none]) (jle_v (jle_n jle_nil)) ?_
      exact kM_statementTold_j172 hT ho hd K HQ
noncomputable def fM_stands_l7_b (R : jR) (o : Nat) (v1 : Int32) (h : jH) : Option ((Int32 × jH) ⊕ (jH)) :=
  (if v1 < 3 then
  (if jin v1 (jsh (R o 36)).2 then
  (if jin (3 + v1) (jsh (R o 36)).2 then
  (if jin v1 (jsh (R o 42)).2 then
  (if jin (3 + v1) (jsh (R o 42)).2 then
  some (.inl (v1 + 1, jhI (jhI h (R o 36) (3 + v1).toNatClampNeg (h.1 (R o 36) v1.toNatClampNeg)) (R o 42) (3 + v1).toNatClampNeg ((jhI h (R o 36) (3 + v1).toNatClampNeg (h.1 (R o 36) v1.toNatClampNeg)).1 (R o 42) v1.toNatClampNeg)))
  else none)
  else none)
  else none)
  else none)
  else
  some (.inr h))
noncomputable def fM_stands_l7 (R : jR) (o : Nat) : (Int32 × jH) → Option ((Int32 × jH) ⊕ (jH)) :=
  fun (s : Int32 × jH) => fM_stands_l7_b R o s.1 s.2
theorem kM_stands_l7_b {X : jX} {d : Nat} {R : jR} {Q : Option Value → jS → Prop} {o : Nat} {v1 : Int32} {h : jH} (hT : jTy R) (ho : jcl 176 o = 12) (hd : 0 ≤ d) {z : (Int32 × jH) ⊕ (jH)} (K : fM_stands_l7_b R o v1 h = some z) (HL : ∀ s : Int32 × jH, z = .inl s → jEx X d jc_228 7 [some (.ref o), some (.int s.1)] [] (176, R, s.2) Q) (HE0 : ∀ x : jH, z = .inr x → jEx X d jc_228 46 [some (.ref o), none] [] (176, R, x) Q) :
    jEx X d jc_228 7 [some (.ref o), some (.int v1)] [] (176, R, h) Q := by
  unfold fM_stands_l7_b at K
  refine jx_next (pc := 7) (pc' := 8) rfl rfl ?_
  refine jx_next (pc := 8) (pc' := 9) rfl rfl ?_
  refine jx_icge (pc := 9) rfl (fun hc1 => ?_) (fun hc1 => ?_)
  · replace K := (if_pos hc1).symm.trans K
    refine jx_next (pc := 12) (pc' := 13) rfl rfl ?_
    refine jx_getr (pc := 13) rfl ho ?_
    refine jx_next (pc := 16) (pc' := 17) rfl rfl ?_
    refine jx_next (pc := 17) (pc' := 18) rfl rfl ?_
    refine jx_next (pc := 18) (pc' := 19) rfl rfl ?_
    refine jx_next (pc := 19) (pc' := 20) rfl rfl ?_
    refine jx_getr (pc := 20) rfl ho ?_
    refine jx_next (pc := 23) (pc' := 24) rfl rfl ?_
    obtain ⟨hg2, K⟩ := jguard K
    refine jx_iald (pc := 24) rfl (jtR hT ho (k := 36) (c := 20) rfl) hg2 ?_
    obtain ⟨hg3, K⟩ := jguard K
    refine jx_iast (pc := 25) rfl (jtR hT ho (k := 36) (c := 20) rfl) hg3 ?_
    refine jx_next (pc := 26) (pc' := 27) rfl rfl ?_
    refine jx_getr (pc := 27) rfl ho ?_
    refine jx_next (pc := 30) (pc' := 31) rfl rfl ?_
    refine jx_next (pc := 31) (pc' := 32) rfl rfl ?_
    refine jx_next (pc := 32) (pc' := 33) rfl rfl ?_
    refine jx_next (pc := 33) (pc' := 34) rfl rfl ?_
    refine jx_getr (pc := 34) rfl ho ?_
    refine jx_next (pc := 37) (pc' := 38) rfl rfl ?_
    obtain ⟨hg4, K⟩ := jguard K
    refine jx_iald (pc := 38) rfl (jtR hT ho (k := 42) (c := 20) rfl) hg4 ?_
    obtain ⟨hg5, K⟩ := jguard K
    refine jx_iast (pc := 39) rfl (jtR hT ho (k := 42) (c := 20) rfl) hg5 ?_
    refine jx_inc (pc := 40) (x := v1) (p2 := [some (.ref o), some (.int (v1 + 1))]) rfl rfl (jlt rfl) rfl ?_
    refine jx_next (pc := 43) (pc' := 7) rfl rfl ?_
    obtain rfl := Option.some.inj K
    refine jx_le (pl' := [some (.ref o), some (.int (v1 + 1))]) (jle_v (jle_v jle_nil)) ?_
    exact HL _ rfl
  · replace K := (if_neg hc1).symm.trans K
    obtain rfl := Option.some.inj K
    refine jx_le (pl' := [some (.ref o), none]) (jle_v (jle_n jle_nil)) ?_
    exact HE0 _ rfl
theorem kM_stands_l7_w {X : jX} {d : Nat} {R : jR} {Q : Option Value → jS → Prop} {o : Nat} (hT : jTy R) (ho : jcl 176 o = 12) (hd : 0 ≤ d) {s : Int32 × jH} {x : jH} (K : jlim (fM_stands_l7 R o) s = some x) (HE : jEx X d jc_228 46 [some (.ref o), none] [] (176, R, x) Q) :
    jEx X d jc_228 7 [some (.ref o), some (.int s.1)] [] (176, R, s.2) Q := by
  refine jlim_ok (G := fun s : Int32 × jH => jEx X d jc_228 7 [some (.ref o), some (.int s.1)] [] (176, R, s.2) Q) (GX := fun x : jH => jEx X d jc_228 46 [some (.ref o), none] [] (176, R, x) Q) (fun s z hz HL HE => ?_) K HE
  exact kM_stands_l7_b hT ho hd hz HL HE
noncomputable def fM_stands_l48_b (R : jR) (o : Nat) (v1 : Int32) (h : jH) : Option ((Int32 × jH) ⊕ (jH)) :=
  (if v1 < 8 then
  (if jin v1 (jsh (R o 37)).2 then
  (if jin (8 + v1) (jsh (R o 37)).2 then
  (if jin v1 (jsh (R o 40)).2 then
  (if jin (8 + v1) (jsh (R o 40)).2 then
  (if jin v1 (jsh (R o 41)).2 then
  (if jin (8 + v1) (jsh (R o 41)).2 then
  some (.inl (v1 + 1, jhI (jhI (jhL h (R o 37) (8 + v1).toNatClampNeg (h.2 (R o 37) v1.toNatClampNeg)) (R o 40) (8 + v1).toNatClampNeg ((jhL h (R o 37) (8 + v1).toNatClampNeg (h.2 (R o 37) v1.toNatClampNeg)).1 (R o 40) v1.toNatClampNeg)) (R o 41) (8 + v1).toNatClampNeg ((jhI (jhL h (R o 37) (8 + v1).toNatClampNeg (h.2 (R o 37) v1.toNatClampNeg)) (R o 40) (8 + v1).toNatClampNeg ((jhL h (R o 37) (8 + v1).toNatClampNeg (h.2 (R o 37) v1.toNatClampNeg)).1 (R o 40) v1.toNatClampNeg)).1 (R o 41) v1.toNatClampNeg)))
  else none)
  else none)
  else none)
  else none)
  else none)
  else none)
  else
  some (.inr h))
noncomputable def fM_stands_l48 (R : jR) (o : Nat) : (Int32 × jH) → Option ((Int32 × jH) ⊕ (jH)) :=
  fun (s : Int32 × jH) => fM_stands_l48_b R o s.1 s.2
theorem kM_stands_l48_b {X : jX} {d : Nat} {R : jR} {Q : Option Value → jS → Prop} {o : Nat} {v1 : Int32} {h : jH} (hT : jTy R) (ho : jcl 176 o = 12) (hd : 0 ≤ d) {z : (Int32 × jH) ⊕ (jH)} (K : fM_stands_l48_b R o v1 h = some z) (HL : ∀ s : Int32 × jH, z = .inl s → jEx X d jc_228 48 [some (.ref o), some (.int s.1)] [] (176, R, s.2) Q) (HE0 : ∀ x : jH, z = .inr x → jEx X d jc_228 105 [some (.ref o), none] [] (176, R, x) Q) :
    jEx X d jc_228 48 [some (.ref o), some (.int v1)] [] (176, R, h) Q := by
  unfold fM_stands_l48_b at K
  refine jx_next (pc := 48) (pc' := 49) rfl rfl ?_
  refine jx_next (pc := 49) (pc' := 51) rfl rfl ?_
  refine jx_icge (pc := 51) rfl (fun hc7 => ?_) (fun hc7 => ?_)
  · replace K := (if_pos hc7).symm.trans K
    refine jx_next (pc := 54) (pc' := 55) rfl rfl ?_
    refine jx_getr (pc := 55) rfl ho ?_
    refine jx_next (pc := 58) (pc' := 60) rfl rfl ?_
    refine jx_next (pc := 60) (pc' := 61) rfl rfl ?_
    refine jx_next (pc := 61) (pc' := 62) rfl rfl ?_
    refine jx_next (pc := 62) (pc' := 63) rfl rfl ?_
    refine jx_getr (pc := 63) rfl ho ?_
    refine jx_next (pc := 66) (pc' := 67) rfl rfl ?_
    obtain ⟨hg8, K⟩ := jguard K
    refine jx_lald (pc := 67) rfl (jtR hT ho (k := 37) (c := 21) rfl) hg8 ?_
    obtain ⟨hg9, K⟩ := jguard K
    refine jx_last (pc := 68) rfl (jtR hT ho (k := 37) (c := 21) rfl) hg9 ?_
    refine jx_next (pc := 69) (pc' := 70) rfl rfl ?_
    refine jx_getr (pc := 70) rfl ho ?_
    refine jx_next (pc := 73) (pc' := 75) rfl rfl ?_
    refine jx_next (pc := 75) (pc' := 76) rfl rfl ?_
    refine jx_next (pc := 76) (pc' := 77) rfl rfl ?_
    refine jx_next (pc := 77) (pc' := 78) rfl rfl ?_
    refine jx_getr (pc := 78) rfl ho ?_
    refine jx_next (pc := 81) (pc' := 82) rfl rfl ?_
    obtain ⟨hg10, K⟩ := jguard K
    refine jx_iald (pc := 82) rfl (jtR hT ho (k := 40) (c := 20) rfl) hg10 ?_
    obtain ⟨hg11, K⟩ := jguard K
    refine jx_iast (pc := 83) rfl (jtR hT ho (k := 40) (c := 20) rfl) hg11 ?_
    refine jx_next (pc := 84) (pc' := 85) rfl rfl ?_
    refine jx_getr (pc := 85) rfl ho ?_
    refine jx_next (pc := 88) (pc' := 90) rfl rfl ?_
    refine jx_next (pc := 90) (pc' := 91) rfl rfl ?_
    refine jx_next (pc := 91) (pc' := 92) rfl rfl ?_
    refine jx_next (pc := 92) (pc' := 93) rfl rfl ?_
    refine jx_getr (pc := 93) rfl ho ?_
    refine jx_next (pc := 96) (pc' := 97) rfl rfl ?_
    obtain ⟨hg12, K⟩ := jguard K
    refine jx_iald (pc := 97) rfl (jtR hT ho (k := 41) (c := 20) rfl) hg12 ?_
    obtain ⟨hg13, K⟩ := jguard K
    refine jx_iast (pc := 98) rfl (jtR hT ho (k := 41) (c := 20) rfl) hg13 ?_
    refine jx_inc (pc := 99) (x := v1) (p2 := [some (.ref o), some (.int (v1 + 1))]) rfl rfl (jlt rfl) rfl ?_
    refine jx_next (pc := 102) (pc' := 48) rfl rfl ?_
    obtain rfl := Option.some.inj K
    refine jx_le (pl' := [some (.ref o), some (.int (v1 + 1))]) (jle_v (jle_v jle_nil)) ?_
    exact HL _ rfl
  · replace K := (if_neg hc7).symm.trans K
    obtain rfl := Option.some.inj K
    refine jx_le (pl' := [some (.ref o), none]) (jle_v (jle_n jle_nil)) ?_
    exact HE0 _ rfl
theorem kM_stands_l48_w {X : jX} {d : Nat} {R : jR} {Q : Option Value → jS → Prop} {o : Nat} (hT : jTy R) (ho : jcl 176 o = 12) (hd : 0 ≤ d) {s : Int32 × jH} {x : jH} (K : jlim (fM_stands_l48 R o) s = some x) (HE : jEx X d jc_228 105 [some (.ref o), none] [] (176, R, x) Q) :
    jEx X d jc_228 48 [some (.ref o), some (.int s.1)] [] (176, R, s.2) Q := by
  refine jlim_ok (G := fun s : Int32 × jH => jEx X d jc_228 48 [some (.ref o), some (.int s.1)] [] (176, R, s.2) Q) (GX := fun x : jH => jEx X d jc_228 105 [some (.ref o), none] [] (176, R, x) Q) (fun s z hz HL HE => ?_) K HE
  exact kM_stands_l48_b hT ho hd hz HL HE
noncomputable def fM_stands_l107_b (R : jR) (o : Nat) (v1 : Int32) (h : jH) : Option ((Int32 × jH) ⊕ (jH)) :=
  (if v1 < 4 then
  (if jin v1 (jsh (R o 38)).2 then
  (if jin (4 + v1) (jsh (R o 38)).2 then
  some (.inl (v1 + 1, jhI h (R o 38) (4 + v1).toNatClampNeg (h.1 (R o 38) v1.toNatClampNeg)))
  else none)
  else none)
  else
  some (.inr h))
noncomputable def fM_stands_l107 (R : jR) (o : Nat) : (Int32 × jH) → Option ((Int32 × jH) ⊕ (jH)) :=
  fun (s : Int32 × jH) => fM_stands_l107_b R o s.1 s.2
theorem kM_stands_l107_b {X : jX} {d : Nat} {R : jR} {Q : Option Value → jS → Prop} {o : Nat} {v1 : Int32} {h : jH} (hT : jTy R) (ho : jcl 176 o = 12) (hd : 0 ≤ d) {z : (Int32 × jH) ⊕ (jH)} (K : fM_stands_l107_b R o v1 h = some z) (HL : ∀ s : Int32 × jH, z = .inl s → jEx X d jc_228 107 [some (.ref o), some (.int s.1)] [] (176, R, s.2) Q) (HE0 : ∀ x : jH, z = .inr x → jEx X d jc_228 132 [some (.ref o), none] [] (176, R, x) Q) :
    jEx X d jc_228 107 [some (.ref o), some (.int v1)] [] (176, R, h) Q := by
  unfold fM_stands_l107_b at K
  refine jx_next (pc := 107) (pc' := 108) rfl rfl ?_
  refine jx_next (pc := 108) (pc' := 109) rfl rfl ?_
  refine jx_icge (pc := 109) rfl (fun hc15 => ?_) (fun hc15 => ?_)
  · replace K := (if_pos hc15).symm.trans K
    refine jx_next (pc := 112) (pc' := 113) rfl rfl ?_
    refine jx_getr (pc := 113) rfl ho ?_
    refine jx_next (pc := 116) (pc' := 117) rfl rfl ?_
    refine jx_next (pc := 117) (pc' := 118) rfl rfl ?_
    refine jx_next (pc := 118) (pc' := 119) rfl rfl ?_
    refine jx_next (pc := 119) (pc' := 120) rfl rfl ?_
    refine jx_getr (pc := 120) rfl ho ?_
    refine jx_next (pc := 123) (pc' := 124) rfl rfl ?_
    obtain ⟨hg16, K⟩ := jguard K
    refine jx_iald (pc := 124) rfl (jtR hT ho (k := 38) (c := 20) rfl) hg16 ?_
    obtain ⟨hg17, K⟩ := jguard K
    refine jx_iast (pc := 125) rfl (jtR hT ho (k := 38) (c := 20) rfl) hg17 ?_
    refine jx_inc (pc := 126) (x := v1) (p2 := [some (.ref o), some (.int (v1 + 1))]) rfl rfl (jlt rfl) rfl ?_
    refine jx_next (pc := 129) (pc' := 107) rfl rfl ?_
    obtain rfl := Option.some.inj K
    refine jx_le (pl' := [some (.ref o), some (.int (v1 + 1))]) (jle_v (jle_v jle_nil)) ?_
    exact HL _ rfl
  · replace K := (if_neg hc15).symm.trans K
    obtain rfl := Option.some.inj K
    refine jx_le (pl' := [some (.ref o), none]) (jle_v (jle_n jle_nil)) ?_
    exact HE0 _ rfl
theorem kM_stands_l107_w {X : jX} {d : Nat} {R : jR} {Q : Option Value → jS → Prop} {o : Nat} (hT : jTy R) (ho : jcl 176 o = 12) (hd : 0 ≤ d) {s : Int32 × jH} {x : jH} (K : jlim (fM_stands_l107 R o) s = some x) (HE : jEx X d jc_228 132 [some (.ref o), none] [] (176, R, x) Q) :
    jEx X d jc_228 107 [some (.ref o), some (.int s.1)] [] (176, R, s.2) Q := by
  refine jlim_ok (G := fun s : Int32 × jH => jEx X d jc_228 107 [some (.ref o), some (.int s.1)] [] (176, R, s.2) Q) (GX := fun x : jH => jEx X d jc_228 132 [some (.ref o), none] [] (176, R, x) Q) (fun s z hz HL HE => ?_) K HE
  exact kM_stands_l107_b hT ho hd hz HL HE
noncomputable def fM_stands_l134_b (R : jR) (o : Nat) (v1 : Int32) (h : jH) : Option ((Int32 × jH) ⊕ (jH)) :=
  (if v1 < 32 then
  (if jin v1 (jsh (R o 39)).2 then
  (if jin (32 + v1) (jsh (R o 39)).2 then
  some (.inl (v1 + 1, jhI h (R o 39) (32 + v1).toNatClampNeg (h.1 (R o 39) v1.toNatClampNeg)))
  else none)
  else none)
  else
  some (.inr h))
noncomputable def fM_stands_l134 (R : jR) (o : Nat) : (Int32 × jH) → Option ((Int32 × jH) ⊕ (jH)) :=
  fun (s : Int32 × jH) => fM_stands_l134_b R o s.1 s.2
theorem kM_stands_l134_b {X : jX} {d : Nat} {R : jR} {Q : Option Value → jS → Prop} {o : Nat} {v1 : Int32} {h : jH} (hT : jTy R) (ho : jcl 176 o = 12) (hd : 0 ≤ d) {z : (Int32 × jH) ⊕ (jH)} (K : fM_stands_l134_b R o v1 h = some z) (HL : ∀ s : Int32 × jH, z = .inl s → jEx X d jc_228 134 [some (.ref o), some (.int s.1)] [] (176, R, s.2) Q) (HE0 : ∀ x : jH, z = .inr x → jEx X d jc_228 161 [some (.ref o), none] [] (176, R, x) Q) :
    jEx X d jc_228 134 [some (.ref o), some (.int v1)] [] (176, R, h) Q := by
  unfold fM_stands_l134_b at K
  refine jx_next (pc := 134) (pc' := 135) rfl rfl ?_
  refine jx_next (pc := 135) (pc' := 137) rfl rfl ?_
  refine jx_icge (pc := 137) rfl (fun hc19 => ?_) (fun hc19 => ?_)
  · replace K := (if_pos hc19).symm.trans K
    refine jx_next (pc := 140) (pc' := 141) rfl rfl ?_
    refine jx_getr (pc := 141) rfl ho ?_
    refine jx_next (pc := 144) (pc' := 146) rfl rfl ?_
    refine jx_next (pc := 146) (pc' := 147) rfl rfl ?_
    refine jx_next (pc := 147) (pc' := 148) rfl rfl ?_
    refine jx_next (pc := 148) (pc' := 149) rfl rfl ?_
    refine jx_getr (pc := 149) rfl ho ?_
    refine jx_next (pc := 152) (pc' := 153) rfl rfl ?_
    obtain ⟨hg20, K⟩ := jguard K
    refine jx_iald (pc := 153) rfl (jtR hT ho (k := 39) (c := 20) rfl) hg20 ?_
    obtain ⟨hg21, K⟩ := jguard K
    refine jx_iast (pc := 154) rfl (jtR hT ho (k := 39) (c := 20) rfl) hg21 ?_
    refine jx_inc (pc := 155) (x := v1) (p2 := [some (.ref o), some (.int (v1 + 1))]) rfl rfl (jlt rfl) rfl ?_
    refine jx_next (pc := 158) (pc' := 134) rfl rfl ?_
    obtain rfl := Option.some.inj K
    refine jx_le (pl' := [some (.ref o), some (.int (v1 + 1))]) (jle_v (jle_v jle_nil)) ?_
    exact HL _ rfl
  · replace K := (if_neg hc19).symm.trans K
    obtain rfl := Option.some.inj K
    refine jx_le (pl' := [some (.ref o), none]) (jle_v (jle_n jle_nil)) ?_
    exact HE0 _ rfl
theorem kM_stands_l134_w {X : jX} {d : Nat} {R : jR} {Q : Option Value → jS → Prop} {o : Nat} (hT : jTy R) (ho : jcl 176 o = 12) (hd : 0 ≤ d) {s : Int32 × jH} {x : jH} (K : jlim (fM_stands_l134 R o) s = some x) (HE : jEx X d jc_228 161 [some (.ref o), none] [] (176, R, x) Q) :
    jEx X d jc_228 134 [some (.ref o), some (.int s.1)] [] (176, R, s.2) Q := by
  refine jlim_ok (G := fun s : Int32 × jH => jEx X d jc_228 134 [some (.ref o), some (.int s.1)] [] (176, R, s.2) Q) (GX := fun x : jH => jEx X d jc_228 161 [some (.ref o), none] [] (176, R, x) Q) (fun s z hz HL HE => ?_) K HE
  exact kM_stands_l134_b hT ho hd hz HL HE
noncomputable def fM_stands_l187_b (R : jR) (o : Nat) (v1 : Int32) (h : jH) : Option ((Int32 × jH) ⊕ (jH)) :=
  (if v1 < (h.1 o 46) then
  (if jin v1 (jsh (R o 45)).2 then
  (if jin (1600 + v1) (jsh (R o 45)).2 then
  some (.inl (v1 + 1, jhI h (R o 45) (1600 + v1).toNatClampNeg (h.1 (R o 45) v1.toNatClampNeg)))
  else none)
  else none)
  else
  some (.inr h))
noncomputable def fM_stands_l187 (R : jR) (o : Nat) : (Int32 × jH) → Option ((Int32 × jH) ⊕ (jH)) :=
  fun (s : Int32 × jH) => fM_stands_l187_b R o s.1 s.2
theorem kM_stands_l187_b {X : jX} {d : Nat} {R : jR} {Q : Option Value → jS → Prop} {o : Nat} {v1 : Int32} {h : jH} (hT : jTy R) (ho : jcl 176 o = 12) (hd : 0 ≤ d) {z : (Int32 × jH) ⊕ (jH)} (K : fM_stands_l187_b R o v1 h = some z) (HL : ∀ s : Int32 × jH, z = .inl s → jEx X d jc_228 187 [some (.ref o), some (.int s.1)] [] (176, R, s.2) Q) (HE0 : ∀ x : jH, z = .inr x → jEx X d jc_228 217 [some (.ref o), none] [] (176, R, x) Q) :
    jEx X d jc_228 187 [some (.ref o), some (.int v1)] [] (176, R, h) Q := by
  unfold fM_stands_l187_b at K
  refine jx_next (pc := 187) (pc' := 188) rfl rfl ?_
  refine jx_next (pc := 188) (pc' := 189) rfl rfl ?_
  refine jx_geti (pc := 189) rfl ho ?_
  refine jx_icge (pc := 192) rfl (fun hc27 => ?_) (fun hc27 => ?_)
  · replace K := (if_pos hc27).symm.trans K
    refine jx_next (pc := 195) (pc' := 196) rfl rfl ?_
    refine jx_getr (pc := 196) rfl ho ?_
    refine jx_next (pc := 199) (pc' := 202) rfl rfl ?_
    refine jx_next (pc := 202) (pc' := 203) rfl rfl ?_
    refine jx_next (pc := 203) (pc' := 204) rfl rfl ?_
    refine jx_next (pc := 204) (pc' := 205) rfl rfl ?_
    refine jx_getr (pc := 205) rfl ho ?_
    refine jx_next (pc := 208) (pc' := 209) rfl rfl ?_
    obtain ⟨hg28, K⟩ := jguard K
    refine jx_iald (pc := 209) rfl (jtR hT ho (k := 45) (c := 20) rfl) hg28 ?_
    obtain ⟨hg29, K⟩ := jguard K
    refine jx_iast (pc := 210) rfl (jtR hT ho (k := 45) (c := 20) rfl) hg29 ?_
    refine jx_inc (pc := 211) (x := v1) (p2 := [some (.ref o), some (.int (v1 + 1))]) rfl rfl (jlt rfl) rfl ?_
    refine jx_next (pc := 214) (pc' := 187) rfl rfl ?_
    obtain rfl := Option.some.inj K
    refine jx_le (pl' := [some (.ref o), some (.int (v1 + 1))]) (jle_v (jle_v jle_nil)) ?_
    exact HL _ rfl
  · replace K := (if_neg hc27).symm.trans K
    obtain rfl := Option.some.inj K
    refine jx_le (pl' := [some (.ref o), none]) (jle_v (jle_n jle_nil)) ?_
    exact HE0 _ rfl
theorem kM_stands_l187_w {X : jX} {d : Nat} {R : jR} {Q : Option Value → jS → Prop} {o : Nat} (hT : jTy R) (ho : jcl 176 o = 12) (hd : 0 ≤ d) {s : Int32 × jH} {x : jH} (K : jlim (fM_stands_l187 R o) s = some x) (HE : jEx X d jc_228 217 [some (.ref o), none] [] (176, R, x) Q) :
    jEx X d jc_228 187 [some (.ref o), some (.int s.1)] [] (176, R, s.2) Q := by
  refine jlim_ok (G := fun s : Int32 × jH => jEx X d jc_228 187 [some (.ref o), some (.int s.1)] [] (176, R, s.2) Q) (GX := fun x : jH => jEx X d jc_228 217 [some (.ref o), none] [] (176, R, x) Q) (fun s z hz HL HE => ?_) K HE
  exact kM_stands_l187_b hT ho hd hz HL HE
noncomputable def fM_stands_l219_b (R : jR) (o : Nat) (v1 : Int32) (h : jH) : Option ((Int32 × jH) ⊕ (jH)) :=
  (if v1 < 18 then
  (if jin v1 (jsh (R o 50)).2 then
  some (.inl (v1 + 1, jhI h (R o 50) v1.toNatClampNeg 0))
  else none)
  else
  some (.inr h))
noncomputable def fM_stands_l219 (R : jR) (o : Nat) : (Int32 × jH) → Option ((Int32 × jH) ⊕ (jH)) :=
  fun (s : Int32 × jH) => fM_stands_l219_b R o s.1 s.2
theorem kM_stands_l219_b {X : jX} {d : Nat} {R : jR} {Q : Option Value → jS → Prop} {o : Nat} {v1 : Int32} {h : jH} (hT : jTy R) (ho : jcl 176 o = 12) (hd : 0 ≤ d) {z : (Int32 × jH) ⊕ (jH)} (K : fM_stands_l219_b R o v1 h = some z) (HL : ∀ s : Int32 × jH, z = .inl s → jEx X d jc_228 219 [some (.ref o), some (.int s.1)] [] (176, R, s.2) Q) (HE0 : ∀ x : jH, z = .inr x → jEx X d jc_228 238 [some (.ref o), none] [] (176, R, x) Q) :
    jEx X d jc_228 219 [some (.ref o), some (.int v1)] [] (176, R, h) Q := by
  unfold fM_stands_l219_b at K
  refine jx_next (pc := 219) (pc' := 220) rfl rfl ?_
  refine jx_next (pc := 220) (pc' := 222) rfl rfl ?_
  refine jx_icge (pc := 222) rfl (fun hc31 => ?_) (fun hc31 => ?_)
  · replace K := (if_pos hc31).symm.trans K
    refine jx_next (pc := 225) (pc' := 226) rfl rfl ?_
    refine jx_getr (pc := 226) rfl ho ?_
    refine jx_next (pc := 229) (pc' := 230) rfl rfl ?_
    refine jx_next (pc := 230) (pc' := 231) rfl rfl ?_
    obtain ⟨hg32, K⟩ := jguard K
    refine jx_iast (pc := 231) rfl (jtR hT ho (k := 50) (c := 20) rfl) hg32 ?_
    refine jx_inc (pc := 232) (x := v1) (p2 := [some (.ref o), some (.int (v1 + 1))]) rfl rfl (jlt rfl) rfl ?_
    refine jx_next (pc := 235) (pc' := 219) rfl rfl ?_
    obtain rfl := Option.some.inj K
    refine jx_le (pl' := [some (.ref o), some (.int (v1 + 1))]) (jle_v (jle_v jle_nil)) ?_
    exact HL _ rfl
  · replace K := (if_neg hc31).symm.trans K
    obtain rfl := Option.some.inj K
    refine jx_le (pl' := [some (.ref o), none]) (jle_v (jle_n jle_nil)) ?_
    exact HE0 _ rfl
theorem kM_stands_l219_w {X : jX} {d : Nat} {R : jR} {Q : Option Value → jS → Prop} {o : Nat} (hT : jTy R) (ho : jcl 176 o = 12) (hd : 0 ≤ d) {s : Int32 × jH} {x : jH} (K : jlim (fM_stands_l219 R o) s = some x) (HE : jEx X d jc_228 238 [some (.ref o), none] [] (176, R, x) Q) :
    jEx X d jc_228 219 [some (.ref o), some (.int s.1)] [] (176, R, s.2) Q := by
  refine jlim_ok (G := fun s : Int32 × jH => jEx X d jc_228 219 [some (.ref o), some (.int s.1)] [] (176, R, s.2) Q) (GX := fun x : jH => jEx X d jc_228 238 [some (.ref o), none] [] (176, R, x) Q) (fun s z hz HL HE => ?_) K HE
  exact kM_stands_l219_b hT ho hd hz HL HE
/-- AndGuestModel.stands()V -/
noncomputable def fM_stands (R : jR) (o : Nat) (h : jH) : Option jH :=
  (Option.bind (jlim (fM_stands_l7 R o) (0, jhI h o 48 1)) (fun (x6 : jH) =>
  (Option.bind (jlim (fM_stands_l48 R o) (0, x6)) (fun (x14 : jH) =>
  (Option.bind (jlim (fM_stands_l107 R o) (0, x14)) (fun (x18 : jH) =>
  (Option.bind (jlim (fM_stands_l134 R o) (0, x18)) (fun (x22 : jH) =>
  (if jin 0 (jsh (R o 43)).2 then
  (if jin 1 (jsh (R o 43)).2 then
  (if jin 0 (jsh (R o 44)).2 then
  (if jin 1 (jsh (R o 44)).2 then
  (Option.bind (jlim (fM_stands_l187 R o) (0, jhI (jhI x22 (R o 43) (1 : Int32).toNatClampNeg (x22.1 (R o 43) (0 : Int32).toNatClampNeg)) (R o 44) (1 : Int32).toNatClampNeg ((jhI x22 (R o 43) (1 : Int32).toNatClampNeg (x22.1 (R o 43) (0 : Int32).toNatClampNeg)).1 (R o 44) (0 : Int32).toNatClampNeg))) (fun (x30 : jH) =>
  (Option.bind (jlim (fM_stands_l219 R o) (0, x30)) (fun (x33 : jH) =>
  (if jin 1 (jsh (R o 50)).2 then
  some (jhI (jhI x33 (R o 50) (1 : Int32).toNatClampNeg (-1)) o 56 0)
  else none)))))
  else none)
  else none)
  else none)
  else none)))))))))
theorem kM_stands {X : jX} {d : Nat} {R : jR} {Q : Option Value → jS → Prop} {o : Nat} {h : jH} (hT : jTy R) (ho : jcl 176 o = 12) (hd : 0 ≤ d) {z : jH} (K : fM_stands R o h = some z) (HQ : Q none (176, R, z)) :
    jCa X d 228 [.ref o] (176, R, h) Q := by
  unfold fM_stands at K
  refine jCa_of (es := jc_228) (pl := [some (.ref o), none]) (M := jm_228) rfl rfl rfl rfl ?_
  refine jx_next (pc := 0) (pc' := 1) rfl rfl ?_
  refine jx_next (pc := 1) (pc' := 2) rfl rfl ?_
  refine jx_putz (pc := 2) rfl ho (Or.inr rfl) ?_
  refine jx_next (pc := 5) (pc' := 6) rfl rfl ?_
  refine jx_stin (pc := 6) (p2 := [some (.ref o), some (.int 0)]) rfl (jlt rfl) rfl ?_
  refine jx_le (pl' := [some (.ref o), some (.int 0)]) (jle_v (jle_v jle_nil)) ?_
  obtain ⟨x6, hz_x6, K⟩ := Option.bind_eq_some_iff.mp K
  refine kM_stands_l7_w hT ho hd hz_x6 ?_
  refine jx_next (pc := 46) (pc' := 47) rfl rfl ?_
  refine jx_stin (pc := 47) (p2 := [some (.ref o), some (.int 0)]) rfl (jlt rfl) rfl ?_
  refine jx_le (pl' := [some (.ref o), some (.int 0)]) (jle_v (jle_v jle_nil)) ?_
  obtain ⟨x14, hz_x14, K⟩ := Option.bind_eq_some_iff.mp K
  refine kM_stands_l48_w hT ho hd hz_x14 ?_
  refine jx_next (pc := 105) (pc' := 106) rfl rfl ?_
  refine jx_stin (pc := 106) (p2 := [some (.ref o), some (.int 0)]) rfl (jlt rfl) rfl ?_
  refine jx_le (pl' := [some (.ref o), some (.int 0)]) (jle_v (jle_v jle_nil)) ?_
  obtain ⟨x18, hz_x18, K⟩ := Option.bind_eq_some_iff.mp K
  refine kM_stands_l107_w hT ho hd hz_x18 ?_
  refine jx_next (pc := 132) (pc' := 133) rfl rfl ?_
  refine jx_stin (pc := 133) (p2 := [some (.ref o), some (.int 0)]) rfl (jlt rfl) rfl ?_
  refine jx_le (pl' := [some (.ref o), some (.int 0)]) (jle_v (jle_v jle_nil)) ?_
  obtain ⟨x22, hz_x22, K⟩ := Option.bind_eq_some_iff.mp K
  refine kM_stands_l134_w hT ho hd hz_x22 ?_
  refine jx_next (pc := 161) (pc' := 162) rfl rfl ?_
  refine jx_getr (pc := 162) rfl ho ?_
  refine jx_next (pc := 165) (pc' := 166) rfl rfl ?_
  refine jx_next (pc := 166) (pc' := 167) rfl rfl ?_
  refine jx_getr (pc := 167) rfl ho ?_
  refine jx_next (pc := 170) (pc' := 171) rfl rfl ?_
  obtain ⟨hg23, K⟩ := jguard K
  refine jx_iald (pc := 171) rfl (jtR hT ho (k := 43) (c := 20) rfl) hg23 ?_
  obtain ⟨hg24, K⟩ := jguard K
  refine jx_iast (pc := 172) rfl (jtR hT ho (k := 43) (c := 20) rfl) hg24 ?_
  refine jx_next (pc := 173) (pc' := 174) rfl rfl ?_
  refine jx_getr (pc := 174) rfl ho ?_
  refine jx_next (pc := 177) (pc' := 178) rfl rfl ?_
  refine jx_next (pc := 178) (pc' := 179) rfl rfl ?_
  refine jx_getr (pc := 179) rfl ho ?_
  refine jx_next (pc := 182) (pc' := 183) rfl rfl ?_
  obtain ⟨hg25, K⟩ := jguard K
  refine jx_iald (pc := 183) rfl (jtR hT ho (k := 44) (c := 20) rfl) hg25 ?_
  obtain ⟨hg26, K⟩ := jguard K
  refine jx_iast (pc := 184) rfl (jtR hT ho (k := 44) (c := 20) rfl) hg26 ?_
  refine jx_next (pc := 185) (pc' := 186) rfl rfl ?_
  refine jx_stin (pc := 186) (p2 := [some (.ref o), some (.int 0)]) rfl (jlt rfl) rfl ?_
  refine jx_le (pl' := [some (.ref o), some (.int 0)]) (jle_v (jle_v jle_nil)) ?_
  obtain ⟨x30, hz_x30, K⟩ := Option.bind_eq_some_iff.mp K
  refine kM_stands_l187_w hT ho hd hz_x30 ?_
  refine jx_next (pc := 217) (pc' := 218) rfl rfl ?_
  refine jx_stin (pc := 218) (p2 := [some (.ref o), some (.int 0)]) rfl (jlt rfl) rfl ?_
  refine jx_le (pl' := [some (.ref o), some (.int 0)]) (jle_v (jle_v jle_nil)) ?_
  obtain ⟨x33, hz_x33, K⟩ := Option.bind_eq_some_iff.mp K
  refine kM_stands_l219_w hT ho hd hz_x33 ?_
  refine jx_next (pc := 238) (pc' := 239) rfl rfl ?_
  refine jx_getr (pc := 239) rfl ho ?_
  refine jx_next (pc := 242) (pc' := 243) rfl rfl ?_
  refine jx_next (pc := 243) (pc' := 244) rfl rfl ?_
  obtain ⟨hg34, K⟩ := jguard K
  refine jx_iast (pc := 244) rfl (jtR hT ho (k := 50) (c := 20) rfl) hg34 ?_
  refine jx_next (pc := 245) (pc' := 246) rfl rfl ?_
  refine jx_next (pc := 246) (pc' := 247) rfl rfl ?_
  refine jx_puti (pc := 247) rfl ho ?_
  obtain rfl := Option.some.inj K
  exact jx_ret (pc := 250) rfl rfl HQ
