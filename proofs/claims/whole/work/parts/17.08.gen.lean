noncomputable def fM_end_j12  (h : jH) : Option (Int32 × jH) :=
  (if jin 0 6 then
  (if jin 0 6 then
  some (0, jhI h 112 (0 : Int32).toNatClampNeg ((h.1 112 (0 : Int32).toNatClampNeg) + 1))
  else none)
  else none)
theorem kM_end_j12 {X : jX} {dd : Nat} {p d : Nat} {q : Nat → Nat} {Q : Option Value → jS → Prop}  {h : jH}  (hd : 0 ≤ dd) {z : Int32 × jH} (K : fM_end_j12  h = some z) (HQ : Q (some (.int z.1)) (176, jRf p d q, z.2)) :
    jEx X dd jc_188 12 [some (.ref 110), none] [] (176, jRf p d q, h) Q := by
  unfold fM_end_j12 at K
  refine jx_next (pc := 12) (pc' := 13) rfl rfl ?_
  refine jx_getr2 (pc := 13) rfl jko_110 jr_12_9 ?_
  refine jx_next (pc := 16) (pc' := 17) rfl rfl ?_
  refine jx_next (pc := 17) (pc' := 18) rfl rfl ?_
  obtain ⟨hg2, K⟩ := jguard K
  refine jx_iald2 (pc := 18) rfl jko_112 jno_112 hg2 ?_
  refine jx_next (pc := 19) (pc' := 20) rfl rfl ?_
  refine jx_next (pc := 20) (pc' := 21) rfl rfl ?_
  obtain ⟨hg3, K⟩ := jguard K
  refine jx_iast2 (pc := 21) rfl jko_112 jno_112 hg3 ?_
  refine jx_next (pc := 22) (pc' := 23) rfl rfl ?_
  obtain rfl := Option.some.inj K
  exact jx_zret (pc := 23) rfl (Or.inl rfl) HQ
/-- AndGuestModel.end(I)Z -/
noncomputable def fM_end (v1 : Int32) (h : jH) : Option (Int32 × jH) :=
  (if v1 < 0 then
  fM_end_j12  h
  else
  (if (h.1 110 1) < v1 then
  fM_end_j12  h
  else
  some (1, jhI h 110 1 v1)))
theorem kM_end {X : jX} {dd : Nat} {p d : Nat} {q : Nat → Nat} {Q : Option Value → jS → Prop} {v1 : Int32} {h : jH}  (hd : 0 ≤ dd) {z : Int32 × jH} (K : fM_end v1 h = some z) (HQ : Q (some (.int z.1)) (176, jRf p d q, z.2)) :
    jCa X dd 188 [.ref 110, .int v1] (176, jRf p d q, h) Q := by
  unfold fM_end at K
  refine jCa_of (es := jc_188) (pl := [some (.ref 110), some (.int v1)]) (M := jm_188) rfl rfl rfl rfl ?_
  refine jx_next (pc := 0) (pc' := 1) rfl rfl ?_
  refine jx_iflt (pc := 1) rfl (fun hc1 => ?_) (fun hc1 => ?_)
  · replace K := (if_pos hc1).symm.trans K
    refine jx_le (pl' := [some (.ref 110), none]) (jle_v (jle_n jle_nil)) ?_
    exact kM_end_j12  hd K HQ
  · replace K := (if_neg hc1).symm.trans K
    refine jx_next (pc := 4) (pc' := 5) rfl rfl ?_
    refine jx_next (pc := 5) (pc' := 6) rfl rfl ?_
    refine jx_geti (pc := 6) rfl jko_110 ?_
    refine jx_icle (pc := 9) rfl (fun hc4 => ?_) (fun hc4 => ?_)
    · replace K := (if_pos hc4).symm.trans K
      refine jx_le (pl' := [some (.ref 110), none]) (jle_v (jle_n jle_nil)) ?_
      exact kM_end_j12  hd K HQ
    · replace K := (if_neg hc4).symm.trans K
      refine jx_next (pc := 24) (pc' := 25) rfl rfl ?_
      refine jx_next (pc := 25) (pc' := 26) rfl rfl ?_
      refine jx_puti (pc := 26) rfl jko_110 ?_
      refine jx_next (pc := 29) (pc' := 30) rfl rfl ?_
      obtain rfl := Option.some.inj K
      exact jx_zret (pc := 30) rfl (Or.inr rfl) HQ
noncomputable def fM_look_l0_j39  (h : jH) : Option ((jH) ⊕ (jH)) :=
  some (.inl (jhI h 110 2 ((h.1 110 2) + 1)))
theorem kM_look_l0_j39 {X : jX} {dd : Nat} {p d : Nat} {q : Nat → Nat} {Q : Option Value → jS → Prop}  {h : jH}  (hd : 0 ≤ dd) {z : (jH) ⊕ (jH)} (K : fM_look_l0_j39  h = some z) (HL : ∀ s : jH, z = .inl s → jEx X dd jc_194 0 [some (.ref 110)] [] (176, jRf p d q, s) Q) (HE0 : ∀ x : jH, z = .inr x → jEx X dd jc_194 52 [some (.ref 110)] [] (176, jRf p d q, x) Q) :
    jEx X dd jc_194 39 [some (.ref 110)] [] (176, jRf p d q, h) Q := by
  unfold fM_look_l0_j39 at K
  refine jx_next (pc := 39) (pc' := 40) rfl rfl ?_
  refine jx_next (pc := 40) (pc' := 41) rfl rfl ?_
  refine jx_geti (pc := 41) rfl jko_110 ?_
  refine jx_next (pc := 44) (pc' := 45) rfl rfl ?_
  refine jx_next (pc := 45) (pc' := 46) rfl rfl ?_
  refine jx_puti (pc := 46) rfl jko_110 ?_
  refine jx_next (pc := 49) (pc' := 0) rfl rfl ?_
  obtain rfl := Option.some.inj K
  refine jx_le (pl' := [some (.ref 110)]) (jle_v jle_nil) ?_
  exact HL (jhI h 110 2 ((h.1 110 2) + 1)) rfl
noncomputable def fM_look_l0_b  (h : jH) : Option ((jH) ⊕ (jH)) :=
  (if (h.1 110 2) < (h.1 110 3) then
  (if jin (h.1 110 2) 1600 then
  (if (h.1 111 (h.1 110 2).toNatClampNeg) = 10 then
  fM_look_l0_j39  h
  else
  (if jin (h.1 110 2) 1600 then
  (if (h.1 111 (h.1 110 2).toNatClampNeg) = 32 then
  fM_look_l0_j39  h
  else
  some (.inr h))
  else none))
  else none)
  else
  some (.inr h))
noncomputable def fM_look_l0  : jH → Option ((jH) ⊕ (jH)) :=
  fun (s : jH) => fM_look_l0_b  s
theorem kM_look_l0_b {X : jX} {dd : Nat} {p d : Nat} {q : Nat → Nat} {Q : Option Value → jS → Prop}  {h : jH}  (hd : 0 ≤ dd) {z : (jH) ⊕ (jH)} (K : fM_look_l0_b  h = some z) (HL : ∀ s : jH, z = .inl s → jEx X dd jc_194 0 [some (.ref 110)] [] (176, jRf p d q, s) Q) (HE0 : ∀ x : jH, z = .inr x → jEx X dd jc_194 52 [some (.ref 110)] [] (176, jRf p d q, x) Q) :
    jEx X dd jc_194 0 [some (.ref 110)] [] (176, jRf p d q, h) Q := by
  unfold fM_look_l0_b at K
  refine jx_next (pc := 0) (pc' := 1) rfl rfl ?_
  refine jx_geti (pc := 1) rfl jko_110 ?_
  refine jx_next (pc := 4) (pc' := 5) rfl rfl ?_
  refine jx_geti (pc := 5) rfl jko_110 ?_
  refine jx_icge (pc := 8) rfl (fun hc1 => ?_) (fun hc1 => ?_)
  · replace K := (if_pos hc1).symm.trans K
    refine jx_next (pc := 11) (pc' := 12) rfl rfl ?_
    refine jx_getr2 (pc := 12) rfl jko_110 jr_12_0 ?_
    refine jx_next (pc := 15) (pc' := 16) rfl rfl ?_
    refine jx_geti (pc := 16) rfl jko_110 ?_
    obtain ⟨hg2, K⟩ := jguard K
    refine jx_iald2 (pc := 19) rfl jko_111 jno_111 hg2 ?_
    refine jx_next (pc := 20) (pc' := 22) rfl rfl ?_
    refine jx_iceq (pc := 22) rfl (fun hc3 => ?_) (fun hc3 => ?_)
    · replace K := (if_pos hc3).symm.trans K
      refine jx_le (pl' := [some (.ref 110)]) (jle_v jle_nil) ?_
      exact kM_look_l0_j39  hd K HL HE0
    · replace K := (if_neg hc3).symm.trans K
      refine jx_next (pc := 25) (pc' := 26) rfl rfl ?_
      refine jx_getr2 (pc := 26) rfl jko_110 jr_12_0 ?_
      refine jx_next (pc := 29) (pc' := 30) rfl rfl ?_
      refine jx_geti (pc := 30) rfl jko_110 ?_
      obtain ⟨hg4, K⟩ := jguard K
      refine jx_iald2 (pc := 33) rfl jko_111 jno_111 hg4 ?_
      refine jx_next (pc := 34) (pc' := 36) rfl rfl ?_
      refine jx_icne (pc := 36) rfl (fun hc5 => ?_) (fun hc5 => ?_)
      · replace K := (if_pos hc5).symm.trans K
        refine jx_le (pl' := [some (.ref 110)]) (jle_v jle_nil) ?_
        exact kM_look_l0_j39  hd K HL HE0
      · replace K := (if_neg hc5).symm.trans K
        obtain rfl := Option.some.inj K
        refine jx_le (pl' := [some (.ref 110)]) (jle_v jle_nil) ?_
        exact HE0 _ rfl
  · replace K := (if_neg hc1).symm.trans K
    obtain rfl := Option.some.inj K
    refine jx_le (pl' := [some (.ref 110)]) (jle_v jle_nil) ?_
    exact HE0 _ rfl
theorem kM_look_l0_w {X : jX} {dd : Nat} {p d : Nat} {q : Nat → Nat} {Q : Option Value → jS → Prop}   (hd : 0 ≤ dd) {s : jH} {x : jH} (K : jlim (fM_look_l0 ) s = some x) (HE : jEx X dd jc_194 52 [some (.ref 110)] [] (176, jRf p d q, x) Q) :
    jEx X dd jc_194 0 [some (.ref 110)] [] (176, jRf p d q, s) Q := by
  refine jlim_ok (G := fun s : jH => jEx X dd jc_194 0 [some (.ref 110)] [] (176, jRf p d q, s) Q) (GX := fun x : jH => jEx X dd jc_194 52 [some (.ref 110)] [] (176, jRf p d q, x) Q) (fun s z hz HL HE => ?_) K HE
  exact kM_look_l0_b  hd hz HL HE
/-- AndGuestModel.look()I -/
noncomputable def fM_look  (h : jH) : Option (Int32 × jH) :=
  (Option.bind (jlim (fM_look_l0 ) h) (fun (x6 : jH) =>
  (if (x6.1 110 2) < (x6.1 110 3) then
  (if jin (x6.1 110 2) 1600 then
  some (x6.1 111 (x6.1 110 2).toNatClampNeg, x6)
  else none)
  else
  some ((-1), x6))))
theorem kM_look {X : jX} {dd : Nat} {p d : Nat} {q : Nat → Nat} {Q : Option Value → jS → Prop}  {h : jH}  (hd : 0 ≤ dd) {z : Int32 × jH} (K : fM_look  h = some z) (HQ : Q (some (.int z.1)) (176, jRf p d q, z.2)) :
    jCa X dd 194 [.ref 110] (176, jRf p d q, h) Q := by
  unfold fM_look at K
  refine jCa_of (es := jc_194) (pl := [some (.ref 110)]) (M := jm_194) rfl rfl rfl rfl ?_
  refine jx_le (pl' := [some (.ref 110)]) (jle_v jle_nil) ?_
  obtain ⟨x6, hz_x6, K⟩ := Option.bind_eq_some_iff.mp K
  refine kM_look_l0_w  hd hz_x6 ?_
  refine jx_next (pc := 52) (pc' := 53) rfl rfl ?_
  refine jx_geti (pc := 53) rfl jko_110 ?_
  refine jx_next (pc := 56) (pc' := 57) rfl rfl ?_
  refine jx_geti (pc := 57) rfl jko_110 ?_
  refine jx_icge (pc := 60) rfl (fun hc7 => ?_) (fun hc7 => ?_)
  · replace K := (if_pos hc7).symm.trans K
    refine jx_next (pc := 63) (pc' := 64) rfl rfl ?_
    refine jx_getr2 (pc := 64) rfl jko_110 jr_12_0 ?_
    refine jx_next (pc := 67) (pc' := 68) rfl rfl ?_
    refine jx_geti (pc := 68) rfl jko_110 ?_
    obtain ⟨hg8, K⟩ := jguard K
    refine jx_iald2 (pc := 71) rfl jko_111 jno_111 hg8 ?_
    refine jx_next (pc := 72) (pc' := 76) rfl rfl ?_
    obtain rfl := Option.some.inj K
    exact jx_iret (pc := 76) rfl HQ
  · replace K := (if_neg hc7).symm.trans K
    refine jx_next (pc := 75) (pc' := 76) rfl rfl ?_
    obtain rfl := Option.some.inj K
    exact jx_iret (pc := 76) rfl HQ
/-- AndGuestModel.isLetter(I)Z -/
noncomputable def fM_isLetter (v0 : Int32) : Int32 :=
  (if v0 < 97 then
  (0 : Int32)
  else
  (if 122 < v0 then
  (0 : Int32)
  else
  (1 : Int32)))
theorem kM_isLetter {X : jX} {dd : Nat} {p d : Nat} {q : Nat → Nat} {Q : Option Value → jS → Prop} {v0 : Int32} {h : jH}  (hd : 0 ≤ dd) {z : Int32} (K : fM_isLetter v0 = z) (HQ : Q (some (.int z)) (176, jRf p d q, h)) :
    jCa X dd 195 [.int v0] (176, jRf p d q, h) Q := by
  unfold fM_isLetter at K
  refine jCa_of (es := jc_195) (pl := [some (.int v0)]) (M := jm_195) rfl rfl rfl rfl ?_
  refine jx_next (pc := 0) (pc' := 1) rfl rfl ?_
  refine jx_next (pc := 1) (pc' := 3) rfl rfl ?_
  refine jx_iclt (pc := 3) rfl (fun hc1 => ?_) (fun hc1 => ?_)
  · replace K := (if_pos hc1).symm.trans K
    refine jx_next (pc := 16) (pc' := 17) rfl rfl ?_
    obtain rfl := K
    exact jx_zret (pc := 17) rfl (Or.inl rfl) HQ
  · replace K := (if_neg hc1).symm.trans K
    refine jx_next (pc := 6) (pc' := 7) rfl rfl ?_
    refine jx_next (pc := 7) (pc' := 9) rfl rfl ?_
    refine jx_icgt (pc := 9) rfl (fun hc2 => ?_) (fun hc2 => ?_)
    · replace K := (if_pos hc2).symm.trans K
      refine jx_next (pc := 16) (pc' := 17) rfl rfl ?_
      obtain rfl := K
      exact jx_zret (pc := 17) rfl (Or.inl rfl) HQ
    · replace K := (if_neg hc2).symm.trans K
      refine jx_next (pc := 12) (pc' := 13) rfl rfl ?_
      refine jx_next (pc := 13) (pc' := 17) rfl rfl ?_
      obtain rfl := K
      exact jx_zret (pc := 17) rfl (Or.inr rfl) HQ
noncomputable def fM_isHere_l35_b (v1 : Nat) (v2 : Int32) (h : jH) : Option ((Int32) ⊕ (Int32)) :=
  (if v2 < (h.1 110 3) then
  (if jin v2 1600 then
  (if (fM_isLetter (h.1 111 v2.toNatClampNeg)) = 0 then
  some (.inr v2)
  else
  some (.inl (v2 + 1)))
  else none)
  else
  some (.inr v2))
noncomputable def fM_isHere_l35 (v1 : Nat) (h : jH) : Int32 → Option ((Int32) ⊕ (Int32)) :=
  fun (s : Int32) => fM_isHere_l35_b v1 s h
theorem kM_isHere_l35_b {X : jX} {dd : Nat} {p d : Nat} {q : Nat → Nat} {Q : Option Value → jS → Prop} {v1 : Nat} {v2 : Int32} {h : jH} (hv1 : jcl 176 v1 = 22) (hd : 1 ≤ (dd + 1)) {z : (Int32) ⊕ (Int32)} (K : fM_isHere_l35_b v1 v2 h = some z) (HL : ∀ s : Int32, z = .inl s → jEx X (dd + 1) jc_193 35 [some (.ref 110), some (.ref v1), some (.int s), none] [] (176, jRf p d q, h) Q) (HE0 : ∀ x : Int32, z = .inr x → jEx X (dd + 1) jc_193 61 [some (.ref 110), some (.ref v1), some (.int x), none] [] (176, jRf p d q, h) Q) :
    jEx X (dd + 1) jc_193 35 [some (.ref 110), some (.ref v1), some (.int v2), none] [] (176, jRf p d q, h) Q := by
  unfold fM_isHere_l35_b at K
  refine jx_next (pc := 35) (pc' := 36) rfl rfl ?_
  refine jx_next (pc := 36) (pc' := 37) rfl rfl ?_
  refine jx_geti (pc := 37) rfl jko_110 ?_
  refine jx_icge (pc := 40) rfl (fun hc6 => ?_) (fun hc6 => ?_)
  · replace K := (if_pos hc6).symm.trans K
    refine jx_next (pc := 43) (pc' := 44) rfl rfl ?_
    refine jx_getr2 (pc := 44) rfl jko_110 jr_12_0 ?_
    refine jx_next (pc := 47) (pc' := 48) rfl rfl ?_
    obtain ⟨hg7, K⟩ := jguard K
    refine jx_iald2 (pc := 48) rfl jko_111 jno_111 hg7 ?_
    refine jx_calls (pc := 49) rfl (Nat.le_of_ble_eq_true rfl) (Nat.le_of_ble_eq_true rfl) ?_
    refine kM_isLetter  (by omega) rfl ?_
    refine jx_ifeq (pc := 52) rfl (fun hc9 => ?_) (fun hc9 => ?_)
    · replace K := (if_pos hc9).symm.trans K
      obtain rfl := Option.some.inj K
      refine jx_le (pl' := [some (.ref 110), some (.ref v1), some (.int v2), none]) (jle_v (jle_v (jle_v (jle_n jle_nil)))) ?_
      exact HE0 _ rfl
    · replace K := (if_neg hc9).symm.trans K
      refine jx_inc (pc := 55) (x := v2) (p2 := [some (.ref 110), some (.ref v1), some (.int (v2 + 1)), none]) rfl rfl (jlt rfl) rfl ?_
      refine jx_next (pc := 58) (pc' := 35) rfl rfl ?_
      obtain rfl := Option.some.inj K
      refine jx_le (pl' := [some (.ref 110), some (.ref v1), some (.int (v2 + 1)), none]) (jle_v (jle_v (jle_v (jle_n jle_nil)))) ?_
      exact HL (v2 + 1) rfl
  · replace K := (if_neg hc6).symm.trans K
    obtain rfl := Option.some.inj K
    refine jx_le (pl' := [some (.ref 110), some (.ref v1), some (.int v2), none]) (jle_v (jle_v (jle_v (jle_n jle_nil)))) ?_
    exact HE0 _ rfl
theorem kM_isHere_l35_w {X : jX} {dd : Nat} {p d : Nat} {q : Nat → Nat} {Q : Option Value → jS → Prop} {v1 : Nat} {h : jH} (hv1 : jcl 176 v1 = 22) (hd : 1 ≤ (dd + 1)) {s : Int32} {x : Int32} (K : jlim (fM_isHere_l35 v1 h) s = some x) (HE : jEx X (dd + 1) jc_193 61 [some (.ref 110), some (.ref v1), some (.int x), none] [] (176, jRf p d q, h) Q) :
    jEx X (dd + 1) jc_193 35 [some (.ref 110), some (.ref v1), some (.int s), none] [] (176, jRf p d q, h) Q := by
  refine jlim_ok (G := fun s : Int32 => jEx X (dd + 1) jc_193 35 [some (.ref 110), some (.ref v1), some (.int s), none] [] (176, jRf p d q, h) Q) (GX := fun x : Int32 => jEx X (dd + 1) jc_193 61 [some (.ref 110), some (.ref v1), some (.int x), none] [] (176, jRf p d q, h) Q) (fun s z hz HL HE => ?_) K HE
  exact kM_isHere_l35_b hv1 hd hz HL HE
noncomputable def fM_isHere_l76_b (v1 : Nat) (v3 : Int32) (h : jH) : Option ((Int32) ⊕ ((Unit) ⊕ (Unit))) :=
  (if v3 < (Int32.ofNat (jsh v1).2) then
  (if jin ((h.1 110 2) + v3) 1600 then
  (if jin v3 (jsh v1).2 then
  (if (h.1 111 ((h.1 110 2) + v3).toNatClampNeg) = (h.1 v1 v3.toNatClampNeg) then
  some (.inl (v3 + 1))
  else
  some (.inr (.inl ())))
  else none)
  else none)
  else
  some (.inr (.inr ())))
noncomputable def fM_isHere_l76 (v1 : Nat) (h : jH) : Int32 → Option ((Int32) ⊕ ((Unit) ⊕ (Unit))) :=
  fun (s : Int32) => fM_isHere_l76_b v1 s h
theorem kM_isHere_l76_b {X : jX} {dd : Nat} {p d : Nat} {q : Nat → Nat} {Q : Option Value → jS → Prop} {v1 : Nat} {v3 : Int32} {h : jH} (hv1 : jcl 176 v1 = 22) (hd : 1 ≤ (dd + 1)) {z : (Int32) ⊕ ((Unit) ⊕ (Unit))} (K : fM_isHere_l76_b v1 v3 h = some z) (HL : ∀ s : Int32, z = .inl s → jEx X (dd + 1) jc_193 76 [some (.ref 110), some (.ref v1), none, some (.int s)] [] (176, jRf p d q, h) Q) (HE0 : ∀ x : Unit, z = .inr (.inl x) → jEx X (dd + 1) jc_193 99 [none, none, none, none] [] (176, jRf p d q, h) Q) (HE1 : ∀ x : Unit, z = .inr (.inr x) → jEx X (dd + 1) jc_193 107 [none, none, none, none] [] (176, jRf p d q, h) Q) :
    jEx X (dd + 1) jc_193 76 [some (.ref 110), some (.ref v1), none, some (.int v3)] [] (176, jRf p d q, h) Q := by
  unfold fM_isHere_l76_b at K
  refine jx_next (pc := 76) (pc' := 77) rfl rfl ?_
  refine jx_next (pc := 77) (pc' := 78) rfl rfl ?_
  refine jx_alen (pc := 78) rfl hv1 ⟨by decide, by decide⟩ ?_
  refine jx_icge (pc := 79) rfl (fun hc12 => ?_) (fun hc12 => ?_)
  · replace K := (if_pos hc12).symm.trans K
    refine jx_next (pc := 82) (pc' := 83) rfl rfl ?_
    refine jx_getr2 (pc := 83) rfl jko_110 jr_12_0 ?_
    refine jx_next (pc := 86) (pc' := 87) rfl rfl ?_
    refine jx_geti (pc := 87) rfl jko_110 ?_
    refine jx_next (pc := 90) (pc' := 91) rfl rfl ?_
    refine jx_next (pc := 91) (pc' := 92) rfl rfl ?_
    obtain ⟨hg13, K⟩ := jguard K
    refine jx_iald2 (pc := 92) rfl jko_111 jno_111 hg13 ?_
    refine jx_next (pc := 93) (pc' := 94) rfl rfl ?_
    refine jx_next (pc := 94) (pc' := 95) rfl rfl ?_
    obtain ⟨hg14, K⟩ := jguard K
    refine jx_cald2 (pc := 95) rfl hv1 rfl hg14 ?_
    refine jx_iceq (pc := 96) rfl (fun hc15 => ?_) (fun hc15 => ?_)
    · replace K := (if_pos hc15).symm.trans K
      refine jx_inc (pc := 101) (x := v3) (p2 := [some (.ref 110), some (.ref v1), none, some (.int (v3 + 1))]) rfl rfl (jlt rfl) rfl ?_
      refine jx_next (pc := 104) (pc' := 76) rfl rfl ?_
      obtain rfl := Option.some.inj K
      refine jx_le (pl' := [some (.ref 110), some (.ref v1), none, some (.int (v3 + 1))]) (jle_v (jle_v (jle_n (jle_v jle_nil)))) ?_
      exact HL (v3 + 1) rfl
    · replace K := (if_neg hc15).symm.trans K
      obtain rfl := Option.some.inj K
      refine jx_le (pl' := [none, none, none, none]) (jle_n (jle_n (jle_n (jle_n jle_nil)))) ?_
      exact HE0 _ rfl
  · replace K := (if_neg hc12).symm.trans K
    obtain rfl := Option.some.inj K
    refine jx_le (pl' := [none, none, none, none]) (jle_n (jle_n (jle_n (jle_n jle_nil)))) ?_
    exact HE1 _ rfl
theorem kM_isHere_l76_w {X : jX} {dd : Nat} {p d : Nat} {q : Nat → Nat} {Q : Option Value → jS → Prop} {v1 : Nat} {h : jH} (hv1 : jcl 176 v1 = 22) (hd : 1 ≤ (dd + 1)) {s : Int32} {x : (Unit) ⊕ (Unit)} (K : jlim (fM_isHere_l76 v1 h) s = some x) (HE0 : ∀ x0 : Unit, x = .inl x0 → jEx X (dd + 1) jc_193 99 [none, none, none, none] [] (176, jRf p d q, h) Q) (HE1 : ∀ x0 : Unit, x = .inr x0 → jEx X (dd + 1) jc_193 107 [none, none, none, none] [] (176, jRf p d q, h) Q) :
    jEx X (dd + 1) jc_193 76 [some (.ref 110), some (.ref v1), none, some (.int s)] [] (176, jRf p d q, h) Q := by
  refine jlim_ok (G := fun s : Int32 => jEx X (dd + 1) jc_193 76 [some (.ref 110), some (.ref v1), none, some (.int s)] [] (176, jRf p d q, h) Q) (GX := fun x : (Unit) ⊕ (Unit) => (∀ x0 : Unit, x = .inl x0 → jEx X (dd + 1) jc_193 99 [none, none, none, none] [] (176, jRf p d q, h) Q) ∧ (∀ x0 : Unit, x = .inr x0 → jEx X (dd + 1) jc_193 107 [none, none, none, none] [] (176, jRf p d q, h) Q)) (fun s z hz HL HE => ?_) K ⟨HE0, HE1⟩
  exact kM_isHere_l76_b hv1 hd hz HL (fun x hx => (HE _ hx).1 x rfl) (fun x hx => (HE _ hx).2 x rfl)
/-- AndGuestModel.isHere([C)Z -/
noncomputable def fM_isHere (v1 : Nat) (h : jH) : Option (Int32 × jH) :=
  (if (h.1 110 5) = 0 then
  (Option.bind (fM_look h) (fun (z2 : Int32 × jH) =>
  (if (fM_isLetter z2.1) = 0 then
  some (0, z2.2)
  else
  (if (z2.2.1 110 2) = (z2.2.1 110 4) then
  some (0, z2.2)
  else
  (Option.bind (jlim (fM_isHere_l35  v1 z2.2) (z2.2.1 110 2)) (fun (x10 : Int32) =>
  (if (x10 - (z2.2.1 110 2)) = (Int32.ofNat (jsh v1).2) then
  (Option.bind (jlim (fM_isHere_l76  v1 z2.2) 0) (fun (x16 : (Unit) ⊕ (Unit)) => Sum.elim (fun (y16 : Unit) =>
  some (0, z2.2)) (fun (y16 : Unit) =>
  some (1, z2.2)) x16))
  else
  some (0, z2.2))))))))
  else
  some (0, h))
theorem kM_isHere {X : jX} {dd : Nat} {p d : Nat} {q : Nat → Nat} {Q : Option Value → jS → Prop} {v1 : Nat} {h : jH} (hv1 : jcl 176 v1 = 22) (hd : 1 ≤ dd) {z : Int32 × jH} (K : fM_isHere v1 h = some z) (HQ : Q (some (.int z.1)) (176, jRf p d q, z.2)) :
    jCa X dd 193 [.ref 110, .ref v1] (176, jRf p d q, h) Q := by
  obtain ⟨dd, rfl⟩ : ∃ d9, dd = d9 + 1 := ⟨dd - 1, by omega⟩
  unfold fM_isHere at K
  refine jCa_of (es := jc_193) (pl := [some (.ref 110), some (.ref v1), none, none]) (M := jm_193) rfl rfl rfl rfl ?_
  refine jx_next (pc := 0) (pc' := 1) rfl rfl ?_
  refine jx_geti (pc := 1) rfl jko_110 ?_
  refine jx_ifne (pc := 4) rfl (fun hc1 => ?_) (fun hc1 => ?_)
  · replace K := (if_pos hc1).symm.trans K
    refine jx_next (pc := 7) (pc' := 8) rfl rfl ?_
    refine jx_callv (pc := 8) (o := 110) (rest := []) rfl ⟨by decide, by decide⟩ rfl jko_110 (Nat.le_of_ble_eq_true rfl) ?_
    obtain ⟨z2, hz_z2, K⟩ := Option.bind_eq_some_iff.mp K
    refine kM_look  (by omega) hz_z2 ?_
    refine jx_calls (pc := 11) rfl (Nat.le_of_ble_eq_true rfl) (Nat.le_of_ble_eq_true rfl) ?_
    refine kM_isLetter  (by omega) rfl ?_
    refine jx_ifeq (pc := 14) rfl (fun hc4 => ?_) (fun hc4 => ?_)
    · replace K := (if_pos hc4).symm.trans K
      refine jx_next (pc := 28) (pc' := 29) rfl rfl ?_
      obtain rfl := Option.some.inj K
      exact jx_zret (pc := 29) rfl (Or.inl rfl) HQ
    · replace K := (if_neg hc4).symm.trans K
      refine jx_next (pc := 17) (pc' := 18) rfl rfl ?_
      refine jx_geti (pc := 18) rfl jko_110 ?_
      refine jx_next (pc := 21) (pc' := 22) rfl rfl ?_
      refine jx_geti (pc := 22) rfl jko_110 ?_
      refine jx_icne (pc := 25) rfl (fun hc5 => ?_) (fun hc5 => ?_)
      · replace K := (if_pos hc5).symm.trans K
        refine jx_next (pc := 28) (pc' := 29) rfl rfl ?_
        obtain rfl := Option.some.inj K
        exact jx_zret (pc := 29) rfl (Or.inl rfl) HQ
      · replace K := (if_neg hc5).symm.trans K
        refine jx_next (pc := 30) (pc' := 31) rfl rfl ?_
        refine jx_geti (pc := 31) rfl jko_110 ?_
        refine jx_stin (pc := 34) (p2 := [some (.ref 110), some (.ref v1), some (.int (z2.2.1 110 2)), none]) rfl (jlt rfl) rfl ?_
        refine jx_le (pl' := [some (.ref 110), some (.ref v1), some (.int (z2.2.1 110 2)), none]) (jle_v (jle_v (jle_v (jle_n jle_nil)))) ?_
        obtain ⟨x10, hz_x10, K⟩ := Option.bind_eq_some_iff.mp K
        refine kM_isHere_l35_w hv1 hd hz_x10 ?_
        refine jx_next (pc := 61) (pc' := 62) rfl rfl ?_
        refine jx_next (pc := 62) (pc' := 63) rfl rfl ?_
        refine jx_geti (pc := 63) rfl jko_110 ?_
        refine jx_next (pc := 66) (pc' := 67) rfl rfl ?_
        refine jx_next (pc := 67) (pc' := 68) rfl rfl ?_
        refine jx_alen (pc := 68) rfl hv1 ⟨by decide, by decide⟩ ?_
        refine jx_iceq (pc := 69) rfl (fun hc11 => ?_) (fun hc11 => ?_)
        · replace K := (if_pos hc11).symm.trans K
          refine jx_next (pc := 74) (pc' := 75) rfl rfl ?_
          refine jx_stin (pc := 75) (p2 := [some (.ref 110), some (.ref v1), some (.int x10), some (.int 0)]) rfl (jlt rfl) rfl ?_
          refine jx_le (pl' := [some (.ref 110), some (.ref v1), none, some (.int 0)]) (jle_v (jle_v (jle_n (jle_v jle_nil)))) ?_
          obtain ⟨x16, hz_x16, K⟩ := Option.bind_eq_some_iff.mp K
          refine kM_isHere_l76_w hv1 hd hz_x16 (fun y16 hx9 => ?_) (fun y16 hx9 => ?_)
          · subst hx9
            refine jx_next (pc := 99) (pc' := 100) rfl rfl ?_
            obtain rfl := Option.some.inj K
            exact jx_zret (pc := 100) rfl (Or.inl rfl) HQ
          · subst hx9
            refine jx_next (pc := 107) (pc' := 108) rfl rfl ?_
            obtain rfl := Option.some.inj K
            exact jx_zret (pc := 108) rfl (Or.inr rfl) HQ
        · replace K := (if_neg hc11).symm.trans K
          refine jx_next (pc := 72) (pc' := 73) rfl rfl ?_
          obtain rfl := Option.some.inj K
          exact jx_zret (pc := 73) rfl (Or.inl rfl) HQ
  · replace K := (if_neg hc1).symm.trans K
    refine jx_next (pc := 28) (pc' := 29) rfl rfl ?_
    obtain rfl := Option.some.inj K
    exact jx_zret (pc := 29) rfl (Or.inl rfl) HQ
/-- AndGuestModel.takes([C)Z -/
noncomputable def fM_takes (v1 : Nat) (h : jH) : Option (Int32 × jH) :=
  (Option.bind (fM_isHere v1 h) (fun (z1 : Int32 × jH) =>
  (if z1.1 = 0 then
  some (0, z1.2)
  else
  some (1, jhI (jhI z1.2 110 2 ((z1.2.1 110 2) + (Int32.ofNat (jsh v1).2))) 110 4 ((jhI z1.2 110 2 ((z1.2.1 110 2) + (Int32.ofNat (jsh v1).2))).1 110 2)))))
theorem kM_takes {X : jX} {dd : Nat} {p d : Nat} {q : Nat → Nat} {Q : Option Value → jS → Prop} {v1 : Nat} {h : jH} (hv1 : jcl 176 v1 = 22) (hd : 2 ≤ dd) {z : Int32 × jH} (K : fM_takes v1 h = some z) (HQ : Q (some (.int z.1)) (176, jRf p d q, z.2)) :
    jCa X dd 192 [.ref 110, .ref v1] (176, jRf p d q, h) Q := by
  obtain ⟨dd, rfl⟩ : ∃ d9, dd = d9 + 1 := ⟨dd - 1, by omega⟩
  unfold fM_takes at K
  refine jCa_of (es := jc_192) (pl := [some (.ref 110), some (.ref v1)]) (M := jm_192) rfl rfl rfl rfl ?_
  refine jx_next (pc := 0) (pc' := 1) rfl rfl ?_
  refine jx_next (pc := 1) (pc' := 2) rfl rfl ?_
  refine jx_callv (pc := 2) (o := 110) (rest := []) rfl ⟨by decide, by decide⟩ rfl jko_110 (Nat.le_of_ble_eq_true rfl) ?_
  obtain ⟨z1, hz_z1, K⟩ := Option.bind_eq_some_iff.mp K
  refine kM_isHere  hv1 (by omega) hz_z1 ?_
  refine jx_ifne (pc := 5) rfl (fun hc2 => ?_) (fun hc2 => ?_)
  · replace K := (if_pos hc2).symm.trans K
    refine jx_next (pc := 8) (pc' := 9) rfl rfl ?_
    obtain rfl := Option.some.inj K
    exact jx_zret (pc := 9) rfl (Or.inl rfl) HQ
  · replace K := (if_neg hc2).symm.trans K
    refine jx_next (pc := 10) (pc' := 11) rfl rfl ?_
    refine jx_next (pc := 11) (pc' := 12) rfl rfl ?_
    refine jx_geti (pc := 12) rfl jko_110 ?_
    refine jx_next (pc := 15) (pc' := 16) rfl rfl ?_
    refine jx_alen (pc := 16) rfl hv1 ⟨by decide, by decide⟩ ?_
    refine jx_next (pc := 17) (pc' := 18) rfl rfl ?_
    refine jx_puti (pc := 18) rfl jko_110 ?_
    refine jx_next (pc := 21) (pc' := 22) rfl rfl ?_
    refine jx_next (pc := 22) (pc' := 23) rfl rfl ?_
    refine jx_geti (pc := 23) rfl jko_110 ?_
    refine jx_puti (pc := 26) rfl jko_110 ?_
    refine jx_next (pc := 29) (pc' := 30) rfl rfl ?_
    obtain rfl := Option.some.inj K
    exact jx_zret (pc := 30) rfl (Or.inr rfl) HQ
/-- AndGuestModel.fail(II)V -/
noncomputable def fM_fail (v1 : Int32) (v2 : Int32) (h : jH) : jH :=
  (if (h.1 110 5) = 0 then
  jhI (jhI h 110 5 v1) 110 6 v2
  else
  h)
theorem kM_fail {X : jX} {dd : Nat} {p d : Nat} {q : Nat → Nat} {Q : Option Value → jS → Prop} {v1 : Int32} {v2 : Int32} {h : jH}  (hd : 0 ≤ dd) {z : jH} (K : fM_fail v1 v2 h = z) (HQ : Q none (176, jRf p d q, z)) :
    jCa X dd 196 [.ref 110, .int v1, .int v2] (176, jRf p d q, h) Q := by
  unfold fM_fail at K
  refine jCa_of (es := jc_196) (pl := [some (.ref 110), some (.int v1), some (.int v2)]) (M := jm_196) rfl rfl rfl rfl ?_
  refine jx_next (pc := 0) (pc' := 1) rfl rfl ?_
  refine jx_geti (pc := 1) rfl jko_110 ?_
  refine jx_ifeq (pc := 4) rfl (fun hc1 => ?_) (fun hc1 => ?_)
  · replace K := (if_pos hc1).symm.trans K
    refine jx_next (pc := 8) (pc' := 9) rfl rfl ?_
    refine jx_next (pc := 9) (pc' := 10) rfl rfl ?_
    refine jx_puti (pc := 10) rfl jko_110 ?_
    refine jx_next (pc := 13) (pc' := 14) rfl rfl ?_
    refine jx_next (pc := 14) (pc' := 15) rfl rfl ?_
    refine jx_puti (pc := 15) rfl jko_110 ?_
    obtain rfl := K
    exact jx_ret (pc := 18) rfl rfl HQ
  · replace K := (if_neg hc1).symm.trans K
    obtain rfl := K
    exact jx_ret (pc := 7) rfl rfl HQ
/-- AndGuestModel.asks([C)V -/
noncomputable def fM_asks (v1 : Nat) (h : jH) : Option jH :=
  (if (h.1 110 5) = 0 then
  (Option.bind (fM_takes v1 h) (fun (z2 : Int32 × jH) =>
  (if z2.1 = 0 then
  some (fM_fail 1 (z2.2.1 110 2) z2.2)
  else
  some z2.2)))
  else
  some h)
theorem kM_asks {X : jX} {dd : Nat} {p d : Nat} {q : Nat → Nat} {Q : Option Value → jS → Prop} {v1 : Nat} {h : jH} (hv1 : jcl 176 v1 = 22) (hd : 3 ≤ dd) {z : jH} (K : fM_asks v1 h = some z) (HQ : Q none (176, jRf p d q, z)) :
    jCa X dd 191 [.ref 110, .ref v1] (176, jRf p d q, h) Q := by
  obtain ⟨dd, rfl⟩ : ∃ d9, dd = d9 + 1 := ⟨dd - 1, by omega⟩
  unfold fM_asks at K
  refine jCa_of (es := jc_191) (pl := [some (.ref 110), some (.ref v1)]) (M := jm_191) rfl rfl rfl rfl ?_
  refine jx_next (pc := 0) (pc' := 1) rfl rfl ?_
  refine jx_geti (pc := 1) rfl jko_110 ?_
  refine jx_ifne (pc := 4) rfl (fun hc1 => ?_) (fun hc1 => ?_)
  · replace K := (if_pos hc1).symm.trans K
    refine jx_next (pc := 7) (pc' := 8) rfl rfl ?_
    refine jx_next (pc := 8) (pc' := 9) rfl rfl ?_
    refine jx_callv (pc := 9) (o := 110) (rest := []) rfl ⟨by decide, by decide⟩ rfl jko_110 (Nat.le_of_ble_eq_true rfl) ?_
    obtain ⟨z2, hz_z2, K⟩ := Option.bind_eq_some_iff.mp K
    refine kM_takes  hv1 (by omega) hz_z2 ?_
    refine jx_ifne (pc := 12) rfl (fun hc3 => ?_) (fun hc3 => ?_)
    · replace K := (if_pos hc3).symm.trans K
      refine jx_next (pc := 15) (pc' := 16) rfl rfl ?_
      refine jx_next (pc := 16) (pc' := 17) rfl rfl ?_
      refine jx_next (pc := 17) (pc' := 18) rfl rfl ?_
      refine jx_geti (pc := 18) rfl jko_110 ?_
      refine jx_callv (pc := 21) (o := 110) (rest := []) rfl ⟨by decide, by decide⟩ rfl jko_110 (Nat.le_of_ble_eq_true rfl) ?_
      refine kM_fail  (by omega) rfl ?_
      obtain rfl := Option.some.inj K
      exact jx_ret (pc := 24) rfl rfl HQ
    · replace K := (if_neg hc3).symm.trans K
      obtain rfl := Option.some.inj K
      exact jx_ret (pc := 24) rfl rfl HQ
  · replace K := (if_neg hc1).symm.trans K
    obtain rfl := Option.some.inj K
    exact jx_ret (pc := 24) rfl rfl HQ
/-- AndGuestModel.isDigit(I)Z -/
noncomputable def fM_isDigit (v0 : Int32) : Int32 :=
  (if v0 < 48 then
  (0 : Int32)
  else
  (if 57 < v0 then
  (0 : Int32)
  else
  (1 : Int32)))
theorem kM_isDigit {X : jX} {dd : Nat} {p d : Nat} {q : Nat → Nat} {Q : Option Value → jS → Prop} {v0 : Int32} {h : jH}  (hd : 0 ≤ dd) {z : Int32} (K : fM_isDigit v0 = z) (HQ : Q (some (.int z)) (176, jRf p d q, h)) :
    jCa X dd 198 [.int v0] (176, jRf p d q, h) Q := by
  unfold fM_isDigit at K
  refine jCa_of (es := jc_198) (pl := [some (.int v0)]) (M := jm_198) rfl rfl rfl rfl ?_
  refine jx_next (pc := 0) (pc' := 1) rfl rfl ?_
  refine jx_next (pc := 1) (pc' := 3) rfl rfl ?_
  refine jx_iclt (pc := 3) rfl (fun hc1 => ?_) (fun hc1 => ?_)
  · replace K := (if_pos hc1).symm.trans K
    refine jx_next (pc := 16) (pc' := 17) rfl rfl ?_
    obtain rfl := K
    exact jx_zret (pc := 17) rfl (Or.inl rfl) HQ
  · replace K := (if_neg hc1).symm.trans K
    refine jx_next (pc := 6) (pc' := 7) rfl rfl ?_
    refine jx_next (pc := 7) (pc' := 9) rfl rfl ?_
    refine jx_icgt (pc := 9) rfl (fun hc2 => ?_) (fun hc2 => ?_)
    · replace K := (if_pos hc2).symm.trans K
      refine jx_next (pc := 16) (pc' := 17) rfl rfl ?_
      obtain rfl := K
      exact jx_zret (pc := 17) rfl (Or.inl rfl) HQ
    · replace K := (if_neg hc2).symm.trans K
      refine jx_next (pc := 12) (pc' := 13) rfl rfl ?_
      refine jx_next (pc := 13) (pc' := 17) rfl rfl ?_
      obtain rfl := K
      exact jx_zret (pc := 17) rfl (Or.inr rfl) HQ
/-- AndGuestModel.isIn(JJJ)Z -/
noncomputable def fM_isIn (v0 : Int64) (v2 : Int64) (v4 : Int64) : Int32 :=
  (if v0 < v2 then
  (0 : Int32)
  else
  (if v4 < v0 then
  (0 : Int32)
  else
  (1 : Int32)))
theorem kM_isIn {X : jX} {dd : Nat} {p d : Nat} {q : Nat → Nat} {Q : Option Value → jS → Prop} {v0 : Int64} {v2 : Int64} {v4 : Int64} {h : jH}  (hd : 0 ≤ dd) {z : Int32} (K : fM_isIn v0 v2 v4 = z) (HQ : Q (some (.int z)) (176, jRf p d q, h)) :
    jCa X dd 199 [.long v0, .long v2, .long v4] (176, jRf p d q, h) Q := by
  unfold fM_isIn at K
  refine jCa_of (es := jc_199) (pl := [some (.long v0), none, some (.long v2), none, some (.long v4), none]) (M := jm_199) rfl rfl rfl rfl ?_
  refine jx_next (pc := 0) (pc' := 1) rfl rfl ?_
  refine jx_next (pc := 1) (pc' := 2) rfl rfl ?_
  refine jx_lclt (pc := 2) rfl rfl (fun hc1 => ?_) (fun hc1 => ?_)
  · replace K := (if_pos hc1).symm.trans K
    refine jx_next (pc := 17) (pc' := 18) rfl rfl ?_
    obtain rfl := K
    exact jx_zret (pc := 18) rfl (Or.inl rfl) HQ
  · replace K := (if_neg hc1).symm.trans K
    refine jx_next (pc := 6) (pc' := 7) rfl rfl ?_
    refine jx_next (pc := 7) (pc' := 9) rfl rfl ?_
    refine jx_lcgt (pc := 9) rfl rfl (fun hc2 => ?_) (fun hc2 => ?_)
    · replace K := (if_pos hc2).symm.trans K
      refine jx_next (pc := 17) (pc' := 18) rfl rfl ?_
      obtain rfl := K
      exact jx_zret (pc := 18) rfl (Or.inl rfl) HQ
    · replace K := (if_neg hc2).symm.trans K
      refine jx_next (pc := 13) (pc' := 14) rfl rfl ?_
      refine jx_next (pc := 14) (pc' := 18) rfl rfl ?_
      obtain rfl := K
      exact jx_zret (pc := 18) rfl (Or.inr rfl) HQ
noncomputable def fM_number_j30  (h : jH) : Option (Int32 × jH) :=
  some (0, (fM_fail 1 (h.1 110 2) h))
theorem kM_number_j30 {X : jX} {dd : Nat} {p d : Nat} {q : Nat → Nat} {Q : Option Value → jS → Prop}  {h : jH}  (hd : 1 ≤ (dd + 1)) {z : Int32 × jH} (K : fM_number_j30  h = some z) (HQ : Q (some (.int z.1)) (176, jRf p d q, z.2)) :
    jEx X (dd + 1) jc_197 30 [some (.ref 110), none, none, none, none] [] (176, jRf p d q, h) Q := by
  unfold fM_number_j30 at K
  refine jx_next (pc := 30) (pc' := 31) rfl rfl ?_
  refine jx_next (pc := 31) (pc' := 32) rfl rfl ?_
  refine jx_next (pc := 32) (pc' := 33) rfl rfl ?_
  refine jx_geti (pc := 33) rfl jko_110 ?_
  refine jx_callv (pc := 36) (o := 110) (rest := []) rfl ⟨by decide, by decide⟩ rfl jko_110 (Nat.le_of_ble_eq_true rfl) ?_
  refine kM_fail  (by omega) rfl ?_
  refine jx_next (pc := 39) (pc' := 40) rfl rfl ?_
  obtain rfl := Option.some.inj K
  exact jx_iret (pc := 40) rfl HQ
noncomputable def fM_number_l49_b (v1 : Int32) (v2 : Int32) (v3 : Int32) (v4 : Int32) (h : jH) : Option ((Int32 × jH) ⊕ ((jH) ⊕ (Int32 × jH))) :=
  (if (h.1 110 2) < (h.1 110 3) then
  (if jin (h.1 110 2) 1600 then
  (if (fM_isDigit (h.1 111 (h.1 110 2).toNatClampNeg)) = 0 then
  some (.inr (.inr (v4, h)))
  else
  (if ((h.1 110 2) - v3) = 4 then
  some (.inr (.inl h))
  else
  (if jin (h.1 110 2) 1600 then
  some (.inl (((10 * v4) + (h.1 111 (h.1 110 2).toNatClampNeg)) - 48, jhI h 110 2 ((h.1 110 2) + 1)))
  else none)))
  else none)
  else
  some (.inr (.inr (v4, h))))
noncomputable def fM_number_l49 (v1 : Int32) (v2 : Int32) (v3 : Int32) : (Int32 × jH) → Option ((Int32 × jH) ⊕ ((jH) ⊕ (Int32 × jH))) :=
  fun (s : Int32 × jH) => fM_number_l49_b v1 v2 v3 s.1 s.2
theorem kM_number_l49_b {X : jX} {dd : Nat} {p d : Nat} {q : Nat → Nat} {Q : Option Value → jS → Prop} {v1 : Int32} {v2 : Int32} {v3 : Int32} {v4 : Int32} {h : jH}  (hd : 1 ≤ (dd + 1)) {z : (Int32 × jH) ⊕ ((jH) ⊕ (Int32 × jH))} (K : fM_number_l49_b v1 v2 v3 v4 h = some z) (HL : ∀ s : Int32 × jH, z = .inl s → jEx X (dd + 1) jc_197 49 [some (.ref 110), some (.int v1), some (.int v2), some (.int v3), some (.int s.1)] [] (176, jRf p d q, s.2) Q) (HE0 : ∀ x : jH, z = .inr (.inl x) → jEx X (dd + 1) jc_197 85 [some (.ref 110), none, none, none, none] [] (176, jRf p d q, x) Q) (HE1 : ∀ x : Int32 × jH, z = .inr (.inr x) → jEx X (dd + 1) jc_197 129 [some (.ref 110), some (.int v1), some (.int v2), some (.int v3), some (.int x.1)] [] (176, jRf p d q, x.2) Q) :
    jEx X (dd + 1) jc_197 49 [some (.ref 110), some (.int v1), some (.int v2), some (.int v3), some (.int v4)] [] (176, jRf p d q, h) Q := by
  unfold fM_number_l49_b at K
  refine jx_next (pc := 49) (pc' := 50) rfl rfl ?_
  refine jx_geti (pc := 50) rfl jko_110 ?_
  refine jx_next (pc := 53) (pc' := 54) rfl rfl ?_
  refine jx_geti (pc := 54) rfl jko_110 ?_
  refine jx_icge (pc := 57) rfl (fun hc7 => ?_) (fun hc7 => ?_)
  · replace K := (if_pos hc7).symm.trans K
    refine jx_next (pc := 60) (pc' := 61) rfl rfl ?_
    refine jx_getr2 (pc := 61) rfl jko_110 jr_12_0 ?_
    refine jx_next (pc := 64) (pc' := 65) rfl rfl ?_
    refine jx_geti (pc := 65) rfl jko_110 ?_
    obtain ⟨hg8, K⟩ := jguard K
    refine jx_iald2 (pc := 68) rfl jko_111 jno_111 hg8 ?_
    refine jx_calls (pc := 69) rfl (Nat.le_of_ble_eq_true rfl) (Nat.le_of_ble_eq_true rfl) ?_
    refine kM_isDigit  (by omega) rfl ?_
    refine jx_ifeq (pc := 72) rfl (fun hc10 => ?_) (fun hc10 => ?_)
    · replace K := (if_pos hc10).symm.trans K
      obtain rfl := Option.some.inj K
      refine jx_le (pl' := [some (.ref 110), some (.int v1), some (.int v2), some (.int v3), some (.int v4)]) (jle_v (jle_v (jle_v (jle_v (jle_v jle_nil))))) ?_
      exact HE1 _ rfl
    · replace K := (if_neg hc10).symm.trans K
      refine jx_next (pc := 75) (pc' := 76) rfl rfl ?_
      refine jx_geti (pc := 76) rfl jko_110 ?_
      refine jx_next (pc := 79) (pc' := 80) rfl rfl ?_
      refine jx_next (pc := 80) (pc' := 81) rfl rfl ?_
      refine jx_next (pc := 81) (pc' := 82) rfl rfl ?_
      refine jx_icne (pc := 82) rfl (fun hc11 => ?_) (fun hc11 => ?_)
      · replace K := (if_pos hc11).symm.trans K
        obtain rfl := Option.some.inj K
        refine jx_le (pl' := [some (.ref 110), none, none, none, none]) (jle_v (jle_n (jle_n (jle_n (jle_n jle_nil))))) ?_
        exact HE0 _ rfl
      · replace K := (if_neg hc11).symm.trans K
        refine jx_next (pc := 96) (pc' := 98) rfl rfl ?_
        refine jx_next (pc := 98) (pc' := 100) rfl rfl ?_
        refine jx_next (pc := 100) (pc' := 101) rfl rfl ?_
        refine jx_next (pc := 101) (pc' := 102) rfl rfl ?_
        refine jx_getr2 (pc := 102) rfl jko_110 jr_12_0 ?_
        refine jx_next (pc := 105) (pc' := 106) rfl rfl ?_
        refine jx_geti (pc := 106) rfl jko_110 ?_
        obtain ⟨hg12, K⟩ := jguard K
        refine jx_iald2 (pc := 109) rfl jko_111 jno_111 hg12 ?_
        refine jx_next (pc := 110) (pc' := 111) rfl rfl ?_
        refine jx_next (pc := 111) (pc' := 113) rfl rfl ?_
        refine jx_next (pc := 113) (pc' := 114) rfl rfl ?_
        refine jx_sti (pc := 114) (p2 := [some (.ref 110), some (.int v1), some (.int v2), some (.int v3), some (.int (((10 * v4) + (h.1 111 (h.1 110 2).toNatClampNeg)) - 48))]) rfl (jlt rfl) rfl ?_
        refine jx_next (pc := 116) (pc' := 117) rfl rfl ?_
        refine jx_next (pc := 117) (pc' := 118) rfl rfl ?_
        refine jx_geti (pc := 118) rfl jko_110 ?_
        refine jx_next (pc := 121) (pc' := 122) rfl rfl ?_
        refine jx_next (pc := 122) (pc' := 123) rfl rfl ?_
        refine jx_puti (pc := 123) rfl jko_110 ?_
        refine jx_next (pc := 126) (pc' := 49) rfl rfl ?_
        obtain rfl := Option.some.inj K
        refine jx_le (pl' := [some (.ref 110), some (.int v1), some (.int v2), some (.int v3), some (.int (((10 * v4) + (h.1 111 (h.1 110 2).toNatClampNeg)) - 48))]) (jle_v (jle_v (jle_v (jle_v (jle_v jle_nil))))) ?_
        exact HL (((10 * v4) + (h.1 111 (h.1 110 2).toNatClampNeg)) - 48, jhI h 110 2 ((h.1 110 2) + 1)) rfl
  · replace K := (if_neg hc7).symm.trans K
    obtain rfl := Option.some.inj K
    refine jx_le (pl' := [some (.ref 110), some (.int v1), some (.int v2), some (.int v3), some (.int v4)]) (jle_v (jle_v (jle_v (jle_v (jle_v jle_nil))))) ?_
    exact HE1 _ rfl
theorem kM_number_l49_w {X : jX} {dd : Nat} {p d : Nat} {q : Nat → Nat} {Q : Option Value → jS → Prop} {v1 : Int32} {v2 : Int32} {v3 : Int32}  (hd : 1 ≤ (dd + 1)) {s : Int32 × jH} {x : (jH) ⊕ (Int32 × jH)} (K : jlim (fM_number_l49 v1 v2 v3) s = some x) (HE0 : ∀ x0 : jH, x = .inl x0 → jEx X (dd + 1) jc_197 85 [some (.ref 110), none, none, none, none] [] (176, jRf p d q, x0) Q) (HE1 : ∀ x0 : Int32 × jH, x = .inr x0 → jEx X (dd + 1) jc_197 129 [some (.ref 110), some (.int v1), some (.int v2), some (.int v3), some (.int x0.1)] [] (176, jRf p d q, x0.2) Q) :
    jEx X (dd + 1) jc_197 49 [some (.ref 110), some (.int v1), some (.int v2), some (.int v3), some (.int s.1)] [] (176, jRf p d q, s.2) Q := by
  refine jlim_ok (G := fun s : Int32 × jH => jEx X (dd + 1) jc_197 49 [some (.ref 110), some (.int v1), some (.int v2), some (.int v3), some (.int s.1)] [] (176, jRf p d q, s.2) Q) (GX := fun x : (jH) ⊕ (Int32 × jH) => (∀ x0 : jH, x = .inl x0 → jEx X (dd + 1) jc_197 85 [some (.ref 110), none, none, none, none] [] (176, jRf p d q, x0) Q) ∧ (∀ x0 : Int32 × jH, x = .inr x0 → jEx X (dd + 1) jc_197 129 [some (.ref 110), some (.int v1), some (.int v2), some (.int v3), some (.int x0.1)] [] (176, jRf p d q, x0.2) Q)) (fun s z hz HL HE => ?_) K ⟨HE0, HE1⟩
  exact kM_number_l49_b  hd hz HL (fun x hx => (HE _ hx).1 x rfl) (fun x hx => (HE _ hx).2 x rfl)
/-- AndGuestModel.number(II)I -/
noncomputable def fM_number (v1 : Int32) (v2 : Int32) (h : jH) : Option (Int32 × jH) :=
  (if (h.1 110 5) = 0 then
  (Option.bind (fM_look h) (fun (z2 : Int32 × jH) =>
  (if (fM_isDigit z2.1) = 0 then
  fM_number_j30  z2.2
  else
  (if (z2.2.1 110 2) = (z2.2.1 110 4) then
  fM_number_j30  z2.2
  else
  (Option.bind (jlim (fM_number_l49  v1 v2 (z2.2.1 110 2)) (0, z2.2)) (fun (x13 : (jH) ⊕ (Int32 × jH)) => Sum.elim (fun (y13 : jH) =>
  some (0, (fM_fail 1 (y13.1 110 2) y13))) (fun (y13 : Int32 × jH) =>
  (if (fM_isIn y13.1.toInt64 v1.toInt64 v2.toInt64) = 0 then
  some (y13.1, (fM_fail 2 (z2.2.1 110 2) (jhI y13.2 110 4 (y13.2.1 110 2))))
  else
  some (y13.1, jhI y13.2 110 4 (y13.2.1 110 2)))) x13))))))
  else
  some (0, h))
theorem kM_number {X : jX} {dd : Nat} {p d : Nat} {q : Nat → Nat} {Q : Option Value → jS → Prop} {v1 : Int32} {v2 : Int32} {h : jH}  (hd : 1 ≤ dd) {z : Int32 × jH} (K : fM_number v1 v2 h = some z) (HQ : Q (some (.int z.1)) (176, jRf p d q, z.2)) :
    jCa X dd 197 [.ref 110, .int v1, .int v2] (176, jRf p d q, h) Q := by
  obtain ⟨dd, rfl⟩ : ∃ d9, dd = d9 + 1 := ⟨dd - 1, by omega⟩
  unfold fM_number at K
  refine jCa_of (es := jc_197) (pl := [some (.ref 110), some (.int v1), some (.int v2), none, none]) (M := jm_197) rfl rfl rfl rfl ?_
  refine jx_next (pc := 0) (pc' := 1) rfl rfl ?_
  refine jx_geti (pc := 1) rfl jko_110 ?_
  refine jx_ifeq (pc := 4) rfl (fun hc1 => ?_) (fun hc1 => ?_)
  · replace K := (if_pos hc1).symm.trans K
    refine jx_next (pc := 9) (pc' := 10) rfl rfl ?_
    refine jx_callv (pc := 10) (o := 110) (rest := []) rfl ⟨by decide, by decide⟩ rfl jko_110 (Nat.le_of_ble_eq_true rfl) ?_
    obtain ⟨z2, hz_z2, K⟩ := Option.bind_eq_some_iff.mp K
    refine kM_look  (by omega) hz_z2 ?_
    refine jx_calls (pc := 13) rfl (Nat.le_of_ble_eq_true rfl) (Nat.le_of_ble_eq_true rfl) ?_
    refine kM_isDigit  (by omega) rfl ?_
    refine jx_ifeq (pc := 16) rfl (fun hc4 => ?_) (fun hc4 => ?_)
    · replace K := (if_pos hc4).symm.trans K
      refine jx_le (pl' := [some (.ref 110), none, none, none, none]) (jle_v (jle_n (jle_n (jle_n (jle_n jle_nil))))) ?_
      exact kM_number_j30  hd K HQ
    · replace K := (if_neg hc4).symm.trans K
      refine jx_next (pc := 19) (pc' := 20) rfl rfl ?_
      refine jx_geti (pc := 20) rfl jko_110 ?_
      refine jx_next (pc := 23) (pc' := 24) rfl rfl ?_
      refine jx_geti (pc := 24) rfl jko_110 ?_
      refine jx_icne (pc := 27) rfl (fun hc6 => ?_) (fun hc6 => ?_)
      · replace K := (if_pos hc6).symm.trans K
        refine jx_le (pl' := [some (.ref 110), none, none, none, none]) (jle_v (jle_n (jle_n (jle_n (jle_n jle_nil))))) ?_
        exact kM_number_j30  hd K HQ
      · replace K := (if_neg hc6).symm.trans K
        refine jx_next (pc := 41) (pc' := 42) rfl rfl ?_
        refine jx_geti (pc := 42) rfl jko_110 ?_
        refine jx_stin (pc := 45) (p2 := [some (.ref 110), some (.int v1), some (.int v2), some (.int (z2.2.1 110 2)), none]) rfl (jlt rfl) rfl ?_
        refine jx_next (pc := 46) (pc' := 47) rfl rfl ?_
        refine jx_sti (pc := 47) (p2 := [some (.ref 110), some (.int v1), some (.int v2), some (.int (z2.2.1 110 2)), some (.int 0)]) rfl (jlt rfl) rfl ?_
        refine jx_le (pl' := [some (.ref 110), some (.int v1), some (.int v2), some (.int (z2.2.1 110 2)), some (.int 0)]) (jle_v (jle_v (jle_v (jle_v (jle_v jle_nil))))) ?_
        obtain ⟨x13, hz_x13, K⟩ := Option.bind_eq_some_iff.mp K
        refine kM_number_l49_w  hd hz_x13 (fun y13 hx9 => ?_) (fun y13 hx9 => ?_)
        · subst hx9
          refine jx_next (pc := 85) (pc' := 86) rfl rfl ?_
          refine jx_next (pc := 86) (pc' := 87) rfl rfl ?_
          refine jx_next (pc := 87) (pc' := 88) rfl rfl ?_
          refine jx_geti (pc := 88) rfl jko_110 ?_
          refine jx_callv (pc := 91) (o := 110) (rest := []) rfl ⟨by decide, by decide⟩ rfl jko_110 (Nat.le_of_ble_eq_true rfl) ?_
          refine kM_fail  (by omega) rfl ?_
          refine jx_next (pc := 94) (pc' := 95) rfl rfl ?_
          obtain rfl := Option.some.inj K
          exact jx_iret (pc := 95) rfl HQ
        · subst hx9
          refine jx_next (pc := 129) (pc' := 130) rfl rfl ?_
          refine jx_next (pc := 130) (pc' := 131) rfl rfl ?_
          refine jx_geti (pc := 131) rfl jko_110 ?_
          refine jx_puti (pc := 134) rfl jko_110 ?_
          refine jx_next (pc := 137) (pc' := 139) rfl rfl ?_
          refine jx_next (pc := 139) (pc' := 140) rfl rfl ?_
          refine jx_next (pc := 140) (pc' := 141) rfl rfl ?_
          refine jx_next (pc := 141) (pc' := 142) rfl rfl ?_
          refine jx_next (pc := 142) (pc' := 143) rfl rfl ?_
          refine jx_next (pc := 143) (pc' := 144) rfl rfl ?_
          refine jx_calls (pc := 144) rfl (Nat.le_of_ble_eq_true rfl) (Nat.le_of_ble_eq_true rfl) ?_
          refine kM_isIn  (by omega) rfl ?_
          refine jx_ifne (pc := 147) rfl (fun hc16 => ?_) (fun hc16 => ?_)
          · replace K := (if_pos hc16).symm.trans K
            refine jx_next (pc := 150) (pc' := 151) rfl rfl ?_
            refine jx_next (pc := 151) (pc' := 152) rfl rfl ?_
            refine jx_next (pc := 152) (pc' := 153) rfl rfl ?_
            refine jx_callv (pc := 153) (o := 110) (rest := []) rfl ⟨by decide, by decide⟩ rfl jko_110 (Nat.le_of_ble_eq_true rfl) ?_
            refine kM_fail  (by omega) rfl ?_
            refine jx_next (pc := 156) (pc' := 158) rfl rfl ?_
            obtain rfl := Option.some.inj K
            exact jx_iret (pc := 158) rfl HQ
          · replace K := (if_neg hc16).symm.trans K
            refine jx_next (pc := 156) (pc' := 158) rfl rfl ?_
            obtain rfl := Option.some.inj K
            exact jx_iret (pc := 158) rfl HQ
  · replace K := (if_neg hc1).symm.trans K
    refine jx_next (pc := 7) (pc' := 8) rfl rfl ?_
    obtain rfl := Option.some.inj K
    exact jx_iret (pc := 8) rfl HQ
/-- AndGuestModel.takesSign(I)Z -/
noncomputable def fM_takesSign (v1 : Int32) (h : jH) : Option (Int32 × jH) :=
  (if (h.1 110 5) = 0 then
  (Option.bind (fM_look h) (fun (z2 : Int32 × jH) =>
  (if z2.1 = v1 then
  some (1, jhI z2.2 110 2 ((z2.2.1 110 2) + 1))
  else
  some (0, z2.2))))
  else
  some (0, h))
theorem kM_takesSign {X : jX} {dd : Nat} {p d : Nat} {q : Nat → Nat} {Q : Option Value → jS → Prop} {v1 : Int32} {h : jH}  (hd : 1 ≤ dd) {z : Int32 × jH} (K : fM_takesSign v1 h = some z) (HQ : Q (some (.int z.1)) (176, jRf p d q, z.2)) :
    jCa X dd 201 [.ref 110, .int v1] (176, jRf p d q, h) Q := by
  obtain ⟨dd, rfl⟩ : ∃ d9, dd = d9 + 1 := ⟨dd - 1, by omega⟩
  unfold fM_takesSign at K
  refine jCa_of (es := jc_201) (pl := [some (.ref 110), some (.int v1)]) (M := jm_201) rfl rfl rfl rfl ?_
  refine jx_next (pc := 0) (pc' := 1) rfl rfl ?_
  refine jx_geti (pc := 1) rfl jko_110 ?_
  refine jx_ifne (pc := 4) rfl (fun hc1 => ?_) (fun hc1 => ?_)
  · replace K := (if_pos hc1).symm.trans K
    refine jx_next (pc := 7) (pc' := 8) rfl rfl ?_
    refine jx_callv (pc := 8) (o := 110) (rest := []) rfl ⟨by decide, by decide⟩ rfl jko_110 (Nat.le_of_ble_eq_true rfl) ?_
    obtain ⟨z2, hz_z2, K⟩ := Option.bind_eq_some_iff.mp K
    refine kM_look  (by omega) hz_z2 ?_
    refine jx_next (pc := 11) (pc' := 12) rfl rfl ?_
    refine jx_iceq (pc := 12) rfl (fun hc3 => ?_) (fun hc3 => ?_)
    · replace K := (if_pos hc3).symm.trans K
      refine jx_next (pc := 17) (pc' := 18) rfl rfl ?_
      refine jx_next (pc := 18) (pc' := 19) rfl rfl ?_
      refine jx_geti (pc := 19) rfl jko_110 ?_
      refine jx_next (pc := 22) (pc' := 23) rfl rfl ?_
      refine jx_next (pc := 23) (pc' := 24) rfl rfl ?_
      refine jx_puti (pc := 24) rfl jko_110 ?_
      refine jx_next (pc := 27) (pc' := 28) rfl rfl ?_
      obtain rfl := Option.some.inj K
      exact jx_zret (pc := 28) rfl (Or.inr rfl) HQ
    · replace K := (if_neg hc3).symm.trans K
      refine jx_next (pc := 15) (pc' := 16) rfl rfl ?_
      obtain rfl := Option.some.inj K
      exact jx_zret (pc := 16) rfl (Or.inl rfl) HQ
  · replace K := (if_neg hc1).symm.trans K
    refine jx_next (pc := 15) (pc' := 16) rfl rfl ?_
    obtain rfl := Option.some.inj K
    exact jx_zret (pc := 16) rfl (Or.inl rfl) HQ
/-- AndGuestModel.asksSign(I)V -/
noncomputable def fM_asksSign (v1 : Int32) (h : jH) : Option jH :=
  (if (h.1 110 5) = 0 then
  (Option.bind (fM_takesSign v1 h) (fun (z2 : Int32 × jH) =>
  (if z2.1 = 0 then
  some (fM_fail 1 (z2.2.1 110 2) z2.2)
  else
  some z2.2)))
  else
  some h)
theorem kM_asksSign {X : jX} {dd : Nat} {p d : Nat} {q : Nat → Nat} {Q : Option Value → jS → Prop} {v1 : Int32} {h : jH}  (hd : 2 ≤ dd) {z : jH} (K : fM_asksSign v1 h = some z) (HQ : Q none (176, jRf p d q, z)) :
    jCa X dd 200 [.ref 110, .int v1] (176, jRf p d q, h) Q := by
  obtain ⟨dd, rfl⟩ : ∃ d9, dd = d9 + 1 := ⟨dd - 1, by omega⟩
  unfold fM_asksSign at K
  refine jCa_of (es := jc_200) (pl := [some (.ref 110), some (.int v1)]) (M := jm_200) rfl rfl rfl rfl ?_
  refine jx_next (pc := 0) (pc' := 1) rfl rfl ?_
  refine jx_geti (pc := 1) rfl jko_110 ?_
  refine jx_ifne (pc := 4) rfl (fun hc1 => ?_) (fun hc1 => ?_)
  · replace K := (if_pos hc1).symm.trans K
    refine jx_next (pc := 7) (pc' := 8) rfl rfl ?_
    refine jx_next (pc := 8) (pc' := 9) rfl rfl ?_
    refine jx_callv (pc := 9) (o := 110) (rest := []) rfl ⟨by decide, by decide⟩ rfl jko_110 (Nat.le_of_ble_eq_true rfl) ?_
    obtain ⟨z2, hz_z2, K⟩ := Option.bind_eq_some_iff.mp K
    refine kM_takesSign  (by omega) hz_z2 ?_
    refine jx_ifne (pc := 12) rfl (fun hc3 => ?_) (fun hc3 => ?_)
    · replace K := (if_pos hc3).symm.trans K
      refine jx_next (pc := 15) (pc' := 16) rfl rfl ?_
      refine jx_next (pc := 16) (pc' := 17) rfl rfl ?_
      refine jx_next (pc := 17) (pc' := 18) rfl rfl ?_
      refine jx_geti (pc := 18) rfl jko_110 ?_
      refine jx_callv (pc := 21) (o := 110) (rest := []) rfl ⟨by decide, by decide⟩ rfl jko_110 (Nat.le_of_ble_eq_true rfl) ?_
      refine kM_fail  (by omega) rfl ?_
      obtain rfl := Option.some.inj K
      exact jx_ret (pc := 24) rfl rfl HQ
    · replace K := (if_neg hc3).symm.trans K
      obtain rfl := Option.some.inj K
      exact jx_ret (pc := 24) rfl rfl HQ
  · replace K := (if_neg hc1).symm.trans K
    obtain rfl := Option.some.inj K
    exact jx_ret (pc := 24) rfl rfl HQ
/-- AndGuestModel.weddingTold()V -/
noncomputable def fM_weddingTold  (h : jH) : Option jH :=
  (Option.bind (fM_asks 113 h) (fun (z1 : jH) =>
  (Option.bind (fM_number 0 40 z1) (fun (z2 : Int32 × jH) =>
  (if jin 0 8 then
  (Option.bind (fM_asks 114 (jhI z2.2 140 (0 : Int32).toNatClampNeg z2.1)) (fun (z4 : jH) =>
  (Option.bind (fM_number 0 99 z4) (fun (z5 : Int32 × jH) =>
  (if jin 1 8 then
  (Option.bind (fM_asks 115 (jhI z5.2 140 (1 : Int32).toNatClampNeg z5.1)) (fun (z7 : jH) =>
  (Option.bind (fM_number 0 99 z7) (fun (z8 : Int32 × jH) =>
  (if jin 2 8 then
  (Option.bind (fM_asks 116 (jhI z8.2 140 (2 : Int32).toNatClampNeg z8.1)) (fun (z10 : jH) =>
  (Option.bind (fM_number 0 99 z10) (fun (z11 : Int32 × jH) =>
  (if jin 3 8 then
  (Option.bind (fM_asksSign 59 (jhI z11.2 140 (3 : Int32).toNatClampNeg z11.1)) (fun (z13 : jH) =>
  some z13))
  else none)))))
  else none)))))
  else none)))))
  else none)))))
theorem kM_weddingTold {X : jX} {dd : Nat} {p d : Nat} {q : Nat → Nat} {Q : Option Value → jS → Prop}  {h : jH}  (hd : 4 ≤ dd) {z : jH} (K : fM_weddingTold  h = some z) (HQ : Q none (176, jRf p d q, z)) :
    jCa X dd 190 [.ref 110] (176, jRf p d q, h) Q := by
  obtain ⟨dd, rfl⟩ : ∃ d9, dd = d9 + 1 := ⟨dd - 1, by omega⟩
  unfold fM_weddingTold at K
  refine jCa_of (es := jc_190) (pl := [some (.ref 110)]) (M := jm_190) rfl rfl rfl rfl ?_
  refine jx_next (pc := 0) (pc' := 1) rfl rfl ?_
  refine jx_next (pc := 1) (pc' := 2) rfl rfl ?_
  refine jx_getr2 (pc := 2) rfl jko_110 jr_12_10 ?_
  refine jx_callv (pc := 5) (o := 110) (rest := []) rfl ⟨by decide, by decide⟩ rfl jko_110 (Nat.le_of_ble_eq_true rfl) ?_
  obtain ⟨z1, hz_z1, K⟩ := Option.bind_eq_some_iff.mp K
  refine kM_asks  jko_113 (by omega) hz_z1 ?_
  refine jx_next (pc := 8) (pc' := 9) rfl rfl ?_
  refine jx_getr2 (pc := 9) rfl jko_110 jr_12_38 ?_
  refine jx_next (pc := 12) (pc' := 13) rfl rfl ?_
  refine jx_next (pc := 13) (pc' := 14) rfl rfl ?_
  refine jx_next (pc := 14) (pc' := 15) rfl rfl ?_
  refine jx_next (pc := 15) (pc' := 17) rfl rfl ?_
  refine jx_callv (pc := 17) (o := 110) (rest := [.int 0, .ref 140]) rfl ⟨by decide, by decide⟩ rfl jko_110 (Nat.le_of_ble_eq_true rfl) ?_
  obtain ⟨z2, hz_z2, K⟩ := Option.bind_eq_some_iff.mp K
  refine kM_number  (by omega) hz_z2 ?_
  obtain ⟨hg3, K⟩ := jguard K
  refine jx_iast2 (pc := 20) rfl jko_140 jno_140 hg3 ?_
  refine jx_next (pc := 21) (pc' := 22) rfl rfl ?_
  refine jx_next (pc := 22) (pc' := 23) rfl rfl ?_
  refine jx_getr2 (pc := 23) rfl jko_110 jr_12_11 ?_
  refine jx_callv (pc := 26) (o := 110) (rest := []) rfl ⟨by decide, by decide⟩ rfl jko_110 (Nat.le_of_ble_eq_true rfl) ?_
  obtain ⟨z4, hz_z4, K⟩ := Option.bind_eq_some_iff.mp K
  refine kM_asks  jko_114 (by omega) hz_z4 ?_
  refine jx_next (pc := 29) (pc' := 30) rfl rfl ?_
  refine jx_getr2 (pc := 30) rfl jko_110 jr_12_38 ?_
  refine jx_next (pc := 33) (pc' := 34) rfl rfl ?_
  refine jx_next (pc := 34) (pc' := 35) rfl rfl ?_
  refine jx_next (pc := 35) (pc' := 36) rfl rfl ?_
  refine jx_next (pc := 36) (pc' := 38) rfl rfl ?_
  refine jx_callv (pc := 38) (o := 110) (rest := [.int 1, .ref 140]) rfl ⟨by decide, by decide⟩ rfl jko_110 (Nat.le_of_ble_eq_true rfl) ?_
  obtain ⟨z5, hz_z5, K⟩ := Option.bind_eq_some_iff.mp K
  refine kM_number  (by omega) hz_z5 ?_
  obtain ⟨hg6, K⟩ := jguard K
  refine jx_iast2 (pc := 41) rfl jko_140 jno_140 hg6 ?_
  refine jx_next (pc := 42) (pc' := 43) rfl rfl ?_
  refine jx_next (pc := 43) (pc' := 44) rfl rfl ?_
  refine jx_getr2 (pc := 44) rfl jko_110 jr_12_12 ?_
  refine jx_callv (pc := 47) (o := 110) (rest := []) rfl ⟨by decide, by decide⟩ rfl jko_110 (Nat.le_of_ble_eq_true rfl) ?_
  obtain ⟨z7, hz_z7, K⟩ := Option.bind_eq_some_iff.mp K
  refine kM_asks  jko_115 (by omega) hz_z7 ?_
  refine jx_next (pc := 50) (pc' := 51) rfl rfl ?_
  refine jx_getr2 (pc := 51) rfl jko_110 jr_12_38 ?_
  refine jx_next (pc := 54) (pc' := 55) rfl rfl ?_
  refine jx_next (pc := 55) (pc' := 56) rfl rfl ?_
  refine jx_next (pc := 56) (pc' := 57) rfl rfl ?_
  refine jx_next (pc := 57) (pc' := 59) rfl rfl ?_
  refine jx_callv (pc := 59) (o := 110) (rest := [.int 2, .ref 140]) rfl ⟨by decide, by decide⟩ rfl jko_110 (Nat.le_of_ble_eq_true rfl) ?_
  obtain ⟨z8, hz_z8, K⟩ := Option.bind_eq_some_iff.mp K
  refine kM_number  (by omega) hz_z8 ?_
  obtain ⟨hg9, K⟩ := jguard K
  refine jx_iast2 (pc := 62) rfl jko_140 jno_140 hg9 ?_
  refine jx_next (pc := 63) (pc' := 64) rfl rfl ?_
  refine jx_next (pc := 64) (pc' := 65) rfl rfl ?_
  refine jx_getr2 (pc := 65) rfl jko_110 jr_12_13 ?_
  refine jx_callv (pc := 68) (o := 110) (rest := []) rfl ⟨by decide, by decide⟩ rfl jko_110 (Nat.le_of_ble_eq_true rfl) ?_
  obtain ⟨z10, hz_z10, K⟩ := Option.bind_eq_some_iff.mp K
  refine kM_asks  jko_116 (by omega) hz_z10 ?_
  refine jx_next (pc := 71) (pc' := 72) rfl rfl ?_
  refine jx_getr2 (pc := 72) rfl jko_110 jr_12_38 ?_
  refine jx_next (pc := 75) (pc' := 76) rfl rfl ?_
  refine jx_next (pc := 76) (pc' := 77) rfl rfl ?_
  refine jx_next (pc := 77) (pc' := 78) rfl rfl ?_
  refine jx_next (pc := 78) (pc' := 80) rfl rfl ?_
  refine jx_callv (pc := 80) (o := 110) (rest := [.int 3, .ref 140]) rfl ⟨by decide, by decide⟩ rfl jko_110 (Nat.le_of_ble_eq_true rfl) ?_
  obtain ⟨z11, hz_z11, K⟩ := Option.bind_eq_some_iff.mp K
  refine kM_number  (by omega) hz_z11 ?_
  obtain ⟨hg12, K⟩ := jguard K
  refine jx_iast2 (pc := 83) rfl jko_140 jno_140 hg12 ?_
  refine jx_next (pc := 84) (pc' := 85) rfl rfl ?_
  refine jx_next (pc := 85) (pc' := 87) rfl rfl ?_
  refine jx_callv (pc := 87) (o := 110) (rest := []) rfl ⟨by decide, by decide⟩ rfl jko_110 (Nat.le_of_ble_eq_true rfl) ?_
  obtain ⟨z13, hz_z13, K⟩ := Option.bind_eq_some_iff.mp K
  refine kM_asksSign  (by omega) hz_z13 ?_
  obtain rfl := Option.some.inj K
  exact jx_ret (pc := 90) rfl rfl HQ
noncomputable def fM_isFull_j23  (h : jH) : Option (Int32 × jH) :=
  (if (h.1 110 5) = 0 then
  some (0, h)
  else
  some (1, h))
theorem kM_isFull_j23 {X : jX} {dd : Nat} {p d : Nat} {q : Nat → Nat} {Q : Option Value → jS → Prop}  {h : jH}  (hd : 1 ≤ (dd + 1)) {z : Int32 × jH} (K : fM_isFull_j23  h = some z) (HQ : Q (some (.int z.1)) (176, jRf p d q, z.2)) :
    jEx X (dd + 1) jc_204 23 [some (.ref 110), none, none, none] [] (176, jRf p d q, h) Q := by
  unfold fM_isFull_j23 at K
  refine jx_next (pc := 23) (pc' := 24) rfl rfl ?_
  refine jx_geti (pc := 24) rfl jko_110 ?_
  refine jx_ifeq (pc := 27) rfl (fun hc5 => ?_) (fun hc5 => ?_)
  · replace K := (if_pos hc5).symm.trans K
    refine jx_next (pc := 34) (pc' := 35) rfl rfl ?_
    obtain rfl := Option.some.inj K
    exact jx_zret (pc := 35) rfl (Or.inl rfl) HQ
  · replace K := (if_neg hc5).symm.trans K
    refine jx_next (pc := 30) (pc' := 31) rfl rfl ?_
    refine jx_next (pc := 31) (pc' := 35) rfl rfl ?_
    obtain rfl := Option.some.inj K
    exact jx_zret (pc := 35) rfl (Or.inr rfl) HQ
/-- AndGuestModel.isFull(III)Z -/
noncomputable def fM_isFull (v1 : Int32) (v2 : Int32) (v3 : Int32) (h : jH) : Option (Int32 × jH) :=
  (if (h.1 110 5) = 0 then
  (if jin v1 6 then
  (if (h.1 138 v1.toNatClampNeg) = v2 then
  fM_isFull_j23  (fM_fail 5 v3 h)
  else
  fM_isFull_j23  h)
  else none)
  else
  fM_isFull_j23  h)
theorem kM_isFull {X : jX} {dd : Nat} {p d : Nat} {q : Nat → Nat} {Q : Option Value → jS → Prop} {v1 : Int32} {v2 : Int32} {v3 : Int32} {h : jH}  (hd : 1 ≤ dd) {z : Int32 × jH} (K : fM_isFull v1 v2 v3 h = some z) (HQ : Q (some (.int z.1)) (176, jRf p d q, z.2)) :
    jCa X dd 204 [.ref 110, .int v1, .int v2, .int v3] (176, jRf p d q, h) Q := by
  obtain ⟨dd, rfl⟩ : ∃ d9, dd = d9 + 1 := ⟨dd - 1, by omega⟩
  unfold fM_isFull at K
  refine jCa_of (es := jc_204) (pl := [some (.ref 110), some (.int v1), some (.int v2), some (.int v3)]) (M := jm_204) rfl rfl rfl rfl ?_
  refine jx_next (pc := 0) (pc' := 1) rfl rfl ?_
  refine jx_geti (pc := 1) rfl jko_110 ?_
  refine jx_ifne (pc := 4) rfl (fun hc1 => ?_) (fun hc1 => ?_)
  · replace K := (if_pos hc1).symm.trans K
    refine jx_next (pc := 7) (pc' := 8) rfl rfl ?_
    refine jx_getr2 (pc := 8) rfl jko_110 jr_12_36 ?_
    refine jx_next (pc := 11) (pc' := 12) rfl rfl ?_
    obtain ⟨hg2, K⟩ := jguard K
    refine jx_iald2 (pc := 12) rfl jko_138 jno_138 hg2 ?_
    refine jx_next (pc := 13) (pc' := 14) rfl rfl ?_
    refine jx_icne (pc := 14) rfl (fun hc3 => ?_) (fun hc3 => ?_)
    · replace K := (if_pos hc3).symm.trans K
      refine jx_next (pc := 17) (pc' := 18) rfl rfl ?_
      refine jx_next (pc := 18) (pc' := 19) rfl rfl ?_
      refine jx_next (pc := 19) (pc' := 20) rfl rfl ?_
      refine jx_callv (pc := 20) (o := 110) (rest := []) rfl ⟨by decide, by decide⟩ rfl jko_110 (Nat.le_of_ble_eq_true rfl) ?_
      refine kM_fail  (by omega) rfl ?_
      refine jx_le (pl' := [some (.ref 110), none, none, none]) (jle_v (jle_n (jle_n (jle_n jle_nil)))) ?_
      exact kM_isFull_j23  hd K HQ
    · replace K := (if_neg hc3).symm.trans K
      refine jx_le (pl' := [some (.ref 110), none, none, none]) (jle_v (jle_n (jle_n (jle_n jle_nil)))) ?_
      exact kM_isFull_j23  hd K HQ
  · replace K := (if_neg hc1).symm.trans K
    refine jx_le (pl' := [some (.ref 110), none, none, none]) (jle_v (jle_n (jle_n (jle_n jle_nil)))) ?_
    exact kM_isFull_j23  hd K HQ
noncomputable def fM_isOwnHere_j299 (s0 : Int32) (h : jH) : Option (Int32 × jH) :=
  (if s0 = 0 then
  (Option.bind (fM_isHere 137 h) (fun (z53 : Int32 × jH) =>
  (if z53.1 = 0 then
  some (0, z53.2)
  else
  some (1, z53.2))))
  else
  some (1, h))
theorem kM_isOwnHere_j299 {X : jX} {dd : Nat} {p d : Nat} {q : Nat → Nat} {Q : Option Value → jS → Prop} {s0 : Int32} {h : jH}  (hd : 2 ≤ (dd + 1)) {z : Int32 × jH} (K : fM_isOwnHere_j299 s0 h = some z) (HQ : Q (some (.int z.1)) (176, jRf p d q, z.2)) :
    jEx X (dd + 1) jc_206 299 [some (.ref 110), none] [.int s0] (176, jRf p d q, h) Q := by
  unfold fM_isOwnHere_j299 at K
  refine jx_stin (pc := 299) (p2 := [some (.ref 110), some (.int s0)]) rfl (jlt rfl) rfl ?_
  refine jx_next (pc := 300) (pc' := 301) rfl rfl ?_
  refine jx_ifne (pc := 301) rfl (fun hc52 => ?_) (fun hc52 => ?_)
  · replace K := (if_pos hc52).symm.trans K
    refine jx_next (pc := 304) (pc' := 305) rfl rfl ?_
    refine jx_next (pc := 305) (pc' := 306) rfl rfl ?_
    refine jx_getr2 (pc := 306) rfl jko_110 jr_12_34 ?_
    refine jx_callv (pc := 309) (o := 110) (rest := []) rfl ⟨by decide, by decide⟩ rfl jko_110 (Nat.le_of_ble_eq_true rfl) ?_
    obtain ⟨z53, hz_z53, K⟩ := Option.bind_eq_some_iff.mp K
    refine kM_isHere  jko_137 (by omega) hz_z53 ?_
    refine jx_ifeq (pc := 312) rfl (fun hc54 => ?_) (fun hc54 => ?_)
    · replace K := (if_pos hc54).symm.trans K
      refine jx_next (pc := 319) (pc' := 320) rfl rfl ?_
      refine jx_stin (pc := 320) (p2 := [some (.ref 110), some (.int 0)]) rfl (jlt rfl) rfl ?_
      refine jx_next (pc := 321) (pc' := 322) rfl rfl ?_
      obtain rfl := Option.some.inj K
      exact jx_zret (pc := 322) rfl (Or.inl rfl) HQ
    · replace K := (if_neg hc54).symm.trans K
      refine jx_next (pc := 315) (pc' := 316) rfl rfl ?_
      refine jx_next (pc := 316) (pc' := 320) rfl rfl ?_
      refine jx_stin (pc := 320) (p2 := [some (.ref 110), some (.int 1)]) rfl (jlt rfl) rfl ?_
      refine jx_next (pc := 321) (pc' := 322) rfl rfl ?_
      obtain rfl := Option.some.inj K
      exact jx_zret (pc := 322) rfl (Or.inr rfl) HQ
  · replace K := (if_neg hc52).symm.trans K
    refine jx_next (pc := 315) (pc' := 316) rfl rfl ?_
    refine jx_next (pc := 316) (pc' := 320) rfl rfl ?_
    refine jx_stin (pc := 320) (p2 := [some (.ref 110), some (.int 1)]) rfl (jlt rfl) rfl ?_
    refine jx_next (pc := 321) (pc' := 322) rfl rfl ?_
    obtain rfl := Option.some.inj K
    exact jx_zret (pc := 322) rfl (Or.inr rfl) HQ
noncomputable def fM_isOwnHere_j294  (h : jH) : Option (Int32 × jH) :=
  fM_isOwnHere_j299  1 h
theorem kM_isOwnHere_j294 {X : jX} {dd : Nat} {p d : Nat} {q : Nat → Nat} {Q : Option Value → jS → Prop}  {h : jH}  (hd : 2 ≤ (dd + 1)) {z : Int32 × jH} (K : fM_isOwnHere_j294  h = some z) (HQ : Q (some (.int z.1)) (176, jRf p d q, z.2)) :
    jEx X (dd + 1) jc_206 294 [some (.ref 110), none] [] (176, jRf p d q, h) Q := by
  unfold fM_isOwnHere_j294 at K
  refine jx_next (pc := 294) (pc' := 295) rfl rfl ?_
  refine jx_next (pc := 295) (pc' := 299) rfl rfl ?_
  refine jx_le (pl' := [some (.ref 110), none]) (jle_v (jle_n jle_nil)) ?_
  exact kM_isOwnHere_j299  hd K HQ
noncomputable def fM_isOwnHere_j223 (s0 : Int32) (h : jH) : Option (Int32 × jH) :=
  (if s0 = 0 then
  (Option.bind (fM_isHere 131 h) (fun (z40 : Int32 × jH) =>
  (if z40.1 = 0 then
  (Option.bind (fM_isHere 132 z40.2) (fun (z42 : Int32 × jH) =>
  (if z42.1 = 0 then
  (Option.bind (fM_isHere 133 z42.2) (fun (z44 : Int32 × jH) =>
  (if z44.1 = 0 then
  (Option.bind (fM_isHere 134 z44.2) (fun (z46 : Int32 × jH) =>
  (if z46.1 = 0 then
  (Option.bind (fM_isHere 135 z46.2) (fun (z48 : Int32 × jH) =>
  (if z48.1 = 0 then
  (Option.bind (fM_isHere 136 z48.2) (fun (z50 : Int32 × jH) =>
  (if z50.1 = 0 then
  fM_isOwnHere_j299  0 z50.2
  else
  fM_isOwnHere_j294  z50.2)))
  else
  fM_isOwnHere_j294  z48.2)))
  else
  fM_isOwnHere_j294  z46.2)))
  else
  fM_isOwnHere_j294  z44.2)))
  else
  fM_isOwnHere_j294  z42.2)))
  else
  fM_isOwnHere_j294  z40.2)))
  else
  fM_isOwnHere_j294  h)
theorem kM_isOwnHere_j223 {X : jX} {dd : Nat} {p d : Nat} {q : Nat → Nat} {Q : Option Value → jS → Prop} {s0 : Int32} {h : jH}  (hd : 2 ≤ (dd + 1)) {z : Int32 × jH} (K : fM_isOwnHere_j223 s0 h = some z) (HQ : Q (some (.int z.1)) (176, jRf p d q, z.2)) :
    jEx X (dd + 1) jc_206 223 [some (.ref 110), none] [.int s0] (176, jRf p d q, h) Q := by
  unfold fM_isOwnHere_j223 at K
  refine jx_stin (pc := 223) (p2 := [some (.ref 110), some (.int s0)]) rfl (jlt rfl) rfl ?_
  refine jx_next (pc := 224) (pc' := 225) rfl rfl ?_
  refine jx_ifne (pc := 225) rfl (fun hc39 => ?_) (fun hc39 => ?_)
  · replace K := (if_pos hc39).symm.trans K
    refine jx_next (pc := 228) (pc' := 229) rfl rfl ?_
    refine jx_next (pc := 229) (pc' := 230) rfl rfl ?_
    refine jx_getr2 (pc := 230) rfl jko_110 jr_12_28 ?_
    refine jx_callv (pc := 233) (o := 110) (rest := []) rfl ⟨by decide, by decide⟩ rfl jko_110 (Nat.le_of_ble_eq_true rfl) ?_
    obtain ⟨z40, hz_z40, K⟩ := Option.bind_eq_some_iff.mp K
    refine kM_isHere  jko_131 (by omega) hz_z40 ?_
    refine jx_ifne (pc := 236) rfl (fun hc41 => ?_) (fun hc41 => ?_)
    · replace K := (if_pos hc41).symm.trans K
      refine jx_next (pc := 239) (pc' := 240) rfl rfl ?_
      refine jx_next (pc := 240) (pc' := 241) rfl rfl ?_
      refine jx_getr2 (pc := 241) rfl jko_110 jr_12_29 ?_
      refine jx_callv (pc := 244) (o := 110) (rest := []) rfl ⟨by decide, by decide⟩ rfl jko_110 (Nat.le_of_ble_eq_true rfl) ?_
      obtain ⟨z42, hz_z42, K⟩ := Option.bind_eq_some_iff.mp K
      refine kM_isHere  jko_132 (by omega) hz_z42 ?_
      refine jx_ifne (pc := 247) rfl (fun hc43 => ?_) (fun hc43 => ?_)
      · replace K := (if_pos hc43).symm.trans K
        refine jx_next (pc := 250) (pc' := 251) rfl rfl ?_
        refine jx_next (pc := 251) (pc' := 252) rfl rfl ?_
        refine jx_getr2 (pc := 252) rfl jko_110 jr_12_30 ?_
        refine jx_callv (pc := 255) (o := 110) (rest := []) rfl ⟨by decide, by decide⟩ rfl jko_110 (Nat.le_of_ble_eq_true rfl) ?_
        obtain ⟨z44, hz_z44, K⟩ := Option.bind_eq_some_iff.mp K
        refine kM_isHere  jko_133 (by omega) hz_z44 ?_
        refine jx_ifne (pc := 258) rfl (fun hc45 => ?_) (fun hc45 => ?_)
        · replace K := (if_pos hc45).symm.trans K
          refine jx_next (pc := 261) (pc' := 262) rfl rfl ?_
          refine jx_next (pc := 262) (pc' := 263) rfl rfl ?_
          refine jx_getr2 (pc := 263) rfl jko_110 jr_12_31 ?_
          refine jx_callv (pc := 266) (o := 110) (rest := []) rfl ⟨by decide, by decide⟩ rfl jko_110 (Nat.le_of_ble_eq_true rfl) ?_
          obtain ⟨z46, hz_z46, K⟩ := Option.bind_eq_some_iff.mp K
          refine kM_isHere  jko_134 (by omega) hz_z46 ?_
          refine jx_ifne (pc := 269) rfl (fun hc47 => ?_) (fun hc47 => ?_)
          · replace K := (if_pos hc47).symm.trans K
            refine jx_next (pc := 272) (pc' := 273) rfl rfl ?_
            refine jx_next (pc := 273) (pc' := 274) rfl rfl ?_
            refine jx_getr2 (pc := 274) rfl jko_110 jr_12_32 ?_
            refine jx_callv (pc := 277) (o := 110) (rest := []) rfl ⟨by decide, by decide⟩ rfl jko_110 (Nat.le_of_ble_eq_true rfl) ?_
            obtain ⟨z48, hz_z48, K⟩ := Option.bind_eq_some_iff.mp K
            refine kM_isHere  jko_135 (by omega) hz_z48 ?_
            refine jx_ifne (pc := 280) rfl (fun hc49 => ?_) (fun hc49 => ?_)
            · replace K := (if_pos hc49).symm.trans K
              refine jx_next (pc := 283) (pc' := 284) rfl rfl ?_
              refine jx_next (pc := 284) (pc' := 285) rfl rfl ?_
              refine jx_getr2 (pc := 285) rfl jko_110 jr_12_33 ?_
              refine jx_callv (pc := 288) (o := 110) (rest := []) rfl ⟨by decide, by decide⟩ rfl jko_110 (Nat.le_of_ble_eq_true rfl) ?_
              obtain ⟨z50, hz_z50, K⟩ := Option.bind_eq_some_iff.mp K
              refine kM_isHere  jko_136 (by omega) hz_z50 ?_
              refine jx_ifeq (pc := 291) rfl (fun hc51 => ?_) (fun hc51 => ?_)
              · replace K := (if_pos hc51).symm.trans K
                refine jx_next (pc := 298) (pc' := 299) rfl rfl ?_
                refine jx_le (pl' := [some (.ref 110), none]) (jle_v (jle_n jle_nil)) ?_
                exact kM_isOwnHere_j299  hd K HQ
              · replace K := (if_neg hc51).symm.trans K
                refine jx_le (pl' := [some (.ref 110), none]) (jle_v (jle_n jle_nil)) ?_
                exact kM_isOwnHere_j294  hd K HQ
            · replace K := (if_neg hc49).symm.trans K
              refine jx_le (pl' := [some (.ref 110), none]) (jle_v (jle_n jle_nil)) ?_
              exact kM_isOwnHere_j294  hd K HQ
          · replace K := (if_neg hc47).symm.trans K
            refine jx_le (pl' := [some (.ref 110), none]) (jle_v (jle_n jle_nil)) ?_
            exact kM_isOwnHere_j294  hd K HQ
        · replace K := (if_neg hc45).symm.trans K
          refine jx_le (pl' := [some (.ref 110), none]) (jle_v (jle_n jle_nil)) ?_
          exact kM_isOwnHere_j294  hd K HQ
      · replace K := (if_neg hc43).symm.trans K
        refine jx_le (pl' := [some (.ref 110), none]) (jle_v (jle_n jle_nil)) ?_
        exact kM_isOwnHere_j294  hd K HQ
    · replace K := (if_neg hc41).symm.trans K
      refine jx_le (pl' := [some (.ref 110), none]) (jle_v (jle_n jle_nil)) ?_
      exact kM_isOwnHere_j294  hd K HQ
  · replace K := (if_neg hc39).symm.trans K
    refine jx_le (pl' := [some (.ref 110), none]) (jle_v (jle_n jle_nil)) ?_
    exact kM_isOwnHere_j294  hd K HQ
noncomputable def fM_isOwnHere_j218  (h : jH) : Option (Int32 × jH) :=
  fM_isOwnHere_j223  1 h
theorem kM_isOwnHere_j218 {X : jX} {dd : Nat} {p d : Nat} {q : Nat → Nat} {Q : Option Value → jS → Prop}  {h : jH}  (hd : 2 ≤ (dd + 1)) {z : Int32 × jH} (K : fM_isOwnHere_j218  h = some z) (HQ : Q (some (.int z.1)) (176, jRf p d q, z.2)) :
    jEx X (dd + 1) jc_206 218 [some (.ref 110), none] [] (176, jRf p d q, h) Q := by
  unfold fM_isOwnHere_j218 at K
  refine jx_next (pc := 218) (pc' := 219) rfl rfl ?_
  refine jx_next (pc := 219) (pc' := 223) rfl rfl ?_
  refine jx_le (pl' := [some (.ref 110), none]) (jle_v (jle_n jle_nil)) ?_
  exact kM_isOwnHere_j223  hd K HQ
noncomputable def fM_isOwnHere_j147 (s0 : Int32) (h : jH) : Option (Int32 × jH) :=
  (if s0 = 0 then
  (Option.bind (fM_isHere 125 h) (fun (z27 : Int32 × jH) =>
  (if z27.1 = 0 then
  (Option.bind (fM_isHere 126 z27.2) (fun (z29 : Int32 × jH) =>
  (if z29.1 = 0 then
  (Option.bind (fM_isHere 127 z29.2) (fun (z31 : Int32 × jH) =>
  (if z31.1 = 0 then
  (Option.bind (fM_isHere 128 z31.2) (fun (z33 : Int32 × jH) =>
  (if z33.1 = 0 then
  (Option.bind (fM_isHere 129 z33.2) (fun (z35 : Int32 × jH) =>
  (if z35.1 = 0 then
  (Option.bind (fM_isHere 130 z35.2) (fun (z37 : Int32 × jH) =>
  (if z37.1 = 0 then
  fM_isOwnHere_j223  0 z37.2
  else
  fM_isOwnHere_j218  z37.2)))
  else
  fM_isOwnHere_j218  z35.2)))
  else
  fM_isOwnHere_j218  z33.2)))
  else
  fM_isOwnHere_j218  z31.2)))
  else
  fM_isOwnHere_j218  z29.2)))
  else
  fM_isOwnHere_j218  z27.2)))
  else
  fM_isOwnHere_j218  h)
theorem kM_isOwnHere_j147 {X : jX} {dd : Nat} {p d : Nat} {q : Nat → Nat} {Q : Option Value → jS → Prop} {s0 : Int32} {h : jH}  (hd : 2 ≤ (dd + 1)) {z : Int32 × jH} (K : fM_isOwnHere_j147 s0 h = some z) (HQ : Q (some (.int z.1)) (176, jRf p d q, z.2)) :
    jEx X (dd + 1) jc_206 147 [some (.ref 110), none] [.int s0] (176, jRf p d q, h) Q := by
  unfold fM_isOwnHere_j147 at K
  refine jx_stin (pc := 147) (p2 := [some (.ref 110), some (.int s0)]) rfl (jlt rfl) rfl ?_
  refine jx_next (pc := 148) (pc' := 149) rfl rfl ?_
  refine jx_ifne (pc := 149) rfl (fun hc26 => ?_) (fun hc26 => ?_)
  · replace K := (if_pos hc26).symm.trans K
    refine jx_next (pc := 152) (pc' := 153) rfl rfl ?_
    refine jx_next (pc := 153) (pc' := 154) rfl rfl ?_
    refine jx_getr2 (pc := 154) rfl jko_110 jr_12_22 ?_
    refine jx_callv (pc := 157) (o := 110) (rest := []) rfl ⟨by decide, by decide⟩ rfl jko_110 (Nat.le_of_ble_eq_true rfl) ?_
    obtain ⟨z27, hz_z27, K⟩ := Option.bind_eq_some_iff.mp K
    refine kM_isHere  jko_125 (by omega) hz_z27 ?_
    refine jx_ifne (pc := 160) rfl (fun hc28 => ?_) (fun hc28 => ?_)
    · replace K := (if_pos hc28).symm.trans K
      refine jx_next (pc := 163) (pc' := 164) rfl rfl ?_
      refine jx_next (pc := 164) (pc' := 165) rfl rfl ?_
      refine jx_getr2 (pc := 165) rfl jko_110 jr_12_23 ?_
      refine jx_callv (pc := 168) (o := 110) (rest := []) rfl ⟨by decide, by decide⟩ rfl jko_110 (Nat.le_of_ble_eq_true rfl) ?_
      obtain ⟨z29, hz_z29, K⟩ := Option.bind_eq_some_iff.mp K
      refine kM_isHere  jko_126 (by omega) hz_z29 ?_
      refine jx_ifne (pc := 171) rfl (fun hc30 => ?_) (fun hc30 => ?_)
      · replace K := (if_pos hc30).symm.trans K
        refine jx_next (pc := 174) (pc' := 175) rfl rfl ?_
        refine jx_next (pc := 175) (pc' := 176) rfl rfl ?_
        refine jx_getr2 (pc := 176) rfl jko_110 jr_12_24 ?_
        refine jx_callv (pc := 179) (o := 110) (rest := []) rfl ⟨by decide, by decide⟩ rfl jko_110 (Nat.le_of_ble_eq_true rfl) ?_
        obtain ⟨z31, hz_z31, K⟩ := Option.bind_eq_some_iff.mp K
        refine kM_isHere  jko_127 (by omega) hz_z31 ?_
        refine jx_ifne (pc := 182) rfl (fun hc32 => ?_) (fun hc32 => ?_)
        · replace K := (if_pos hc32).symm.trans K
          refine jx_next (pc := 185) (pc' := 186) rfl rfl ?_
          refine jx_next (pc := 186) (pc' := 187) rfl rfl ?_
          refine jx_getr2 (pc := 187) rfl jko_110 jr_12_25 ?_
          refine jx_callv (pc := 190) (o := 110) (rest := []) rfl ⟨by decide, by decide⟩ rfl jko_110 (Nat.le_of_ble_eq_true rfl) ?_
          obtain ⟨z33, hz_z33, K⟩ := Option.bind_eq_some_iff.mp K
          refine kM_isHere  jko_128 (by omega) hz_z33 ?_
          refine jx_ifne (pc := 193) rfl (fun hc34 => ?_) (fun hc34 => ?_)
          · replace K := (if_pos hc34).symm.trans K
            refine jx_next (pc := 196) (pc' := 197) rfl rfl ?_
            refine jx_next (pc := 197) (pc' := 198) rfl rfl ?_
            refine jx_getr2 (pc := 198) rfl jko_110 jr_12_26 ?_
            refine jx_callv (pc := 201) (o := 110) (rest := []) rfl ⟨by decide, by decide⟩ rfl jko_110 (Nat.le_of_ble_eq_true rfl) ?_
            obtain ⟨z35, hz_z35, K⟩ := Option.bind_eq_some_iff.mp K
            refine kM_isHere  jko_129 (by omega) hz_z35 ?_
            refine jx_ifne (pc := 204) rfl (fun hc36 => ?_) (fun hc36 => ?_)
            · replace K := (if_pos hc36).symm.trans K
              refine jx_next (pc := 207) (pc' := 208) rfl rfl ?_
              refine jx_next (pc := 208) (pc' := 209) rfl rfl ?_
              refine jx_getr2 (pc := 209) rfl jko_110 jr_12_27 ?_
              refine jx_callv (pc := 212) (o := 110) (rest := []) rfl ⟨by decide, by decide⟩ rfl jko_110 (Nat.le_of_ble_eq_true rfl) ?_
              obtain ⟨z37, hz_z37, K⟩ := Option.bind_eq_some_iff.mp K
              refine kM_isHere  jko_130 (by omega) hz_z37 ?_
              refine jx_ifeq (pc := 215) rfl (fun hc38 => ?_) (fun hc38 => ?_)
              · replace K := (if_pos hc38).symm.trans K
                refine jx_next (pc := 222) (pc' := 223) rfl rfl ?_
                refine jx_le (pl' := [some (.ref 110), none]) (jle_v (jle_n jle_nil)) ?_
                exact kM_isOwnHere_j223  hd K HQ
              · replace K := (if_neg hc38).symm.trans K
                refine jx_le (pl' := [some (.ref 110), none]) (jle_v (jle_n jle_nil)) ?_
                exact kM_isOwnHere_j218  hd K HQ
            · replace K := (if_neg hc36).symm.trans K
              refine jx_le (pl' := [some (.ref 110), none]) (jle_v (jle_n jle_nil)) ?_
              exact kM_isOwnHere_j218  hd K HQ
          · replace K := (if_neg hc34).symm.trans K
            refine jx_le (pl' := [some (.ref 110), none]) (jle_v (jle_n jle_nil)) ?_
            exact kM_isOwnHere_j218  hd K HQ
        · replace K := (if_neg hc32).symm.trans K
          refine jx_le (pl' := [some (.ref 110), none]) (jle_v (jle_n jle_nil)) ?_
          exact kM_isOwnHere_j218  hd K HQ
      · replace K := (if_neg hc30).symm.trans K
        refine jx_le (pl' := [some (.ref 110), none]) (jle_v (jle_n jle_nil)) ?_
        exact kM_isOwnHere_j218  hd K HQ
    · replace K := (if_neg hc28).symm.trans K
      refine jx_le (pl' := [some (.ref 110), none]) (jle_v (jle_n jle_nil)) ?_
      exact kM_isOwnHere_j218  hd K HQ
  · replace K := (if_neg hc26).symm.trans K
    refine jx_le (pl' := [some (.ref 110), none]) (jle_v (jle_n jle_nil)) ?_
    exact kM_isOwnHere_j218  hd K HQ
noncomputable def fM_isOwnHere_j142  (h : jH) : Option (Int32 × jH) :=
  fM_isOwnHere_j147  1 h
theorem kM_isOwnHere_j142 {X : jX} {dd : Nat} {p d : Nat} {q : Nat → Nat} {Q : Option Value → jS → Prop}  {h : jH}  (hd : 2 ≤ (dd + 1)) {z : Int32 × jH} (K : fM_isOwnHere_j142  h = some z) (HQ : Q (some (.int z.1)) (176, jRf p d q, z.2)) :
    jEx X (dd + 1) jc_206 142 [some (.ref 110), none] [] (176, jRf p d q, h) Q := by
  unfold fM_isOwnHere_j142 at K
  refine jx_next (pc := 142) (pc' := 143) rfl rfl ?_
  refine jx_next (pc := 143) (pc' := 147) rfl rfl ?_
  refine jx_le (pl' := [some (.ref 110), none]) (jle_v (jle_n jle_nil)) ?_
  exact kM_isOwnHere_j147  hd K HQ
noncomputable def fM_isOwnHere_j71 (s0 : Int32) (h : jH) : Option (Int32 × jH) :=
  (if s0 = 0 then
  (Option.bind (fM_isHere 119 h) (fun (z14 : Int32 × jH) =>
  (if z14.1 = 0 then
  (Option.bind (fM_isHere 120 z14.2) (fun (z16 : Int32 × jH) =>
  (if z16.1 = 0 then
  (Option.bind (fM_isHere 121 z16.2) (fun (z18 : Int32 × jH) =>
  (if z18.1 = 0 then
  (Option.bind (fM_isHere 122 z18.2) (fun (z20 : Int32 × jH) =>
  (if z20.1 = 0 then
  (Option.bind (fM_isHere 123 z20.2) (fun (z22 : Int32 × jH) =>
  (if z22.1 = 0 then
  (Option.bind (fM_isHere 124 z22.2) (fun (z24 : Int32 × jH) =>
  (if z24.1 = 0 then
  fM_isOwnHere_j147  0 z24.2
  else
  fM_isOwnHere_j142  z24.2)))
  else
  fM_isOwnHere_j142  z22.2)))
  else
  fM_isOwnHere_j142  z20.2)))
  else
  fM_isOwnHere_j142  z18.2)))
  else
  fM_isOwnHere_j142  z16.2)))
  else
  fM_isOwnHere_j142  z14.2)))
  else
  fM_isOwnHere_j142  h)
theorem kM_isOwnHere_j71 {X : jX} {dd : Nat} {p d : Nat} {q : Nat → Nat} {Q : Option Value → jS → Prop} {s0 : Int32} {h : jH}  (hd : 2 ≤ (dd + 1)) {z : Int32 × jH} (K : fM_isOwnHere_j71 s0 h = some z) (HQ : Q (some (.int z.1)) (176, jRf p d q, z.2)) :
    jEx X (dd + 1) jc_206 71 [some (.ref 110), none] [.int s0] (176, jRf p d q, h) Q := by
  unfold fM_isOwnHere_j71 at K
  refine jx_stin (pc := 71) (p2 := [some (.ref 110), some (.int s0)]) rfl (jlt rfl) rfl ?_
  refine jx_next (pc := 72) (pc' := 73) rfl rfl ?_
  refine jx_ifne (pc := 73) rfl (fun hc13 => ?_) (fun hc13 => ?_)
  · replace K := (if_pos hc13).symm.trans K
    refine jx_next (pc := 76) (pc' := 77) rfl rfl ?_
    refine jx_next (pc := 77) (pc' := 78) rfl rfl ?_
    refine jx_getr2 (pc := 78) rfl jko_110 jr_12_16 ?_
    refine jx_callv (pc := 81) (o := 110) (rest := []) rfl ⟨by decide, by decide⟩ rfl jko_110 (Nat.le_of_ble_eq_true rfl) ?_
    obtain ⟨z14, hz_z14, K⟩ := Option.bind_eq_some_iff.mp K
    refine kM_isHere  jko_119 (by omega) hz_z14 ?_
    refine jx_ifne (pc := 84) rfl (fun hc15 => ?_) (fun hc15 => ?_)
    · replace K := (if_pos hc15).symm.trans K
      refine jx_next (pc := 87) (pc' := 88) rfl rfl ?_
      refine jx_next (pc := 88) (pc' := 89) rfl rfl ?_
      refine jx_getr2 (pc := 89) rfl jko_110 jr_12_17 ?_
      refine jx_callv (pc := 92) (o := 110) (rest := []) rfl ⟨by decide, by decide⟩ rfl jko_110 (Nat.le_of_ble_eq_true rfl) ?_
      obtain ⟨z16, hz_z16, K⟩ := Option.bind_eq_some_iff.mp K
      refine kM_isHere  jko_120 (by omega) hz_z16 ?_
      refine jx_ifne (pc := 95) rfl (fun hc17 => ?_) (fun hc17 => ?_)
      · replace K := (if_pos hc17).symm.trans K
        refine jx_next (pc := 98) (pc' := 99) rfl rfl ?_
        refine jx_next (pc := 99) (pc' := 100) rfl rfl ?_
        refine jx_getr2 (pc := 100) rfl jko_110 jr_12_18 ?_
        refine jx_callv (pc := 103) (o := 110) (rest := []) rfl ⟨by decide, by decide⟩ rfl jko_110 (Nat.le_of_ble_eq_true rfl) ?_
        obtain ⟨z18, hz_z18, K⟩ := Option.bind_eq_some_iff.mp K
        refine kM_isHere  jko_121 (by omega) hz_z18 ?_
        refine jx_ifne (pc := 106) rfl (fun hc19 => ?_) (fun hc19 => ?_)
        · replace K := (if_pos hc19).symm.trans K
          refine jx_next (pc := 109) (pc' := 110) rfl rfl ?_
          refine jx_next (pc := 110) (pc' := 111) rfl rfl ?_
          refine jx_getr2 (pc := 111) rfl jko_110 jr_12_19 ?_
          refine jx_callv (pc := 114) (o := 110) (rest := []) rfl ⟨by decide, by decide⟩ rfl jko_110 (Nat.le_of_ble_eq_true rfl) ?_
          obtain ⟨z20, hz_z20, K⟩ := Option.bind_eq_some_iff.mp K
          refine kM_isHere  jko_122 (by omega) hz_z20 ?_
          refine jx_ifne (pc := 117) rfl (fun hc21 => ?_) (fun hc21 => ?_)
          · replace K := (if_pos hc21).symm.trans K
            refine jx_next (pc := 120) (pc' := 121) rfl rfl ?_
            refine jx_next (pc := 121) (pc' := 122) rfl rfl ?_
            refine jx_getr2 (pc := 122) rfl jko_110 jr_12_20 ?_
            refine jx_callv (pc := 125) (o := 110) (rest := []) rfl ⟨by decide, by decide⟩ rfl jko_110 (Nat.le_of_ble_eq_true rfl) ?_
            obtain ⟨z22, hz_z22, K⟩ := Option.bind_eq_some_iff.mp K
            refine kM_isHere  jko_123 (by omega) hz_z22 ?_
            refine jx_ifne (pc := 128) rfl (fun hc23 => ?_) (fun hc23 => ?_)
            · replace K := (if_pos hc23).symm.trans K
              refine jx_next (pc := 131) (pc' := 132) rfl rfl ?_
              refine jx_next (pc := 132) (pc' := 133) rfl rfl ?_
              refine jx_getr2 (pc := 133) rfl jko_110 jr_12_21 ?_
              refine jx_callv (pc := 136) (o := 110) (rest := []) rfl ⟨by decide, by decide⟩ rfl jko_110 (Nat.le_of_ble_eq_true rfl) ?_
              obtain ⟨z24, hz_z24, K⟩ := Option.bind_eq_some_iff.mp K
              refine kM_isHere  jko_124 (by omega) hz_z24 ?_
              refine jx_ifeq (pc := 139) rfl (fun hc25 => ?_) (fun hc25 => ?_)
              · replace K := (if_pos hc25).symm.trans K
                refine jx_next (pc := 146) (pc' := 147) rfl rfl ?_
                refine jx_le (pl' := [some (.ref 110), none]) (jle_v (jle_n jle_nil)) ?_
                exact kM_isOwnHere_j147  hd K HQ
              · replace K := (if_neg hc25).symm.trans K
                refine jx_le (pl' := [some (.ref 110), none]) (jle_v (jle_n jle_nil)) ?_
                exact kM_isOwnHere_j142  hd K HQ
            · replace K := (if_neg hc23).symm.trans K
              refine jx_le (pl' := [some (.ref 110), none]) (jle_v (jle_n jle_nil)) ?_
              exact kM_isOwnHere_j142  hd K HQ
          · replace K := (if_neg hc21).symm.trans K
            refine jx_le (pl' := [some (.ref 110), none]) (jle_v (jle_n jle_nil)) ?_
            exact kM_isOwnHere_j142  hd K HQ
        · replace K := (if_neg hc19).symm.trans K
          refine jx_le (pl' := [some (.ref 110), none]) (jle_v (jle_n jle_nil)) ?_
          exact kM_isOwnHere_j142  hd K HQ
      · replace K := (if_neg hc17).symm.trans K
        refine jx_le (pl' := [some (.ref 110), none]) (jle_v (jle_n jle_nil)) ?_
        exact kM_isOwnHere_j142  hd K HQ
    · replace K := (if_neg hc15).symm.trans K
      refine jx_le (pl' := [some (.ref 110), none]) (jle_v (jle_n jle_nil)) ?_
      exact kM_isOwnHere_j142  hd K HQ
  · replace K := (if_neg hc13).symm.trans K
    refine jx_le (pl' := [some (.ref 110), none]) (jle_v (jle_n jle_nil)) ?_
    exact kM_isOwnHere_j142  hd K HQ
noncomputable def fM_isOwnHere_j66  (h : jH) : Option (Int32 × jH) :=
  fM_isOwnHere_j71  1 h
theorem kM_isOwnHere_j66 {X : jX} {dd : Nat} {p d : Nat} {q : Nat → Nat} {Q : Option Value → jS → Prop}  {h : jH}  (hd : 2 ≤ (dd + 1)) {z : Int32 × jH} (K : fM_isOwnHere_j66  h = some z) (HQ : Q (some (.int z.1)) (176, jRf p d q, z.2)) :
    jEx X (dd + 1) jc_206 66 [some (.ref 110), none] [] (176, jRf p d q, h) Q := by
  unfold fM_isOwnHere_j66 at K
  refine jx_next (pc := 66) (pc' := 67) rfl rfl ?_
  refine jx_next (pc := 67) (pc' := 71) rfl rfl ?_
  refine jx_le (pl' := [some (.ref 110), none]) (jle_v (jle_n jle_nil)) ?_
  exact kM_isOwnHere_j71  hd K HQ
/-- AndGuestModel.isOwnHere()Z -/
noncomputable def fM_isOwnHere  (h : jH) : Option (Int32 × jH) :=
  (Option.bind (fM_isHere 113 h) (fun (z1 : Int32 × jH) =>
  (if z1.1 = 0 then
  (Option.bind (fM_isHere 114 z1.2) (fun (z3 : Int32 × jH) =>
  (if z3.1 = 0 then
  (Option.bind (fM_isHere 115 z3.2) (fun (z5 : Int32 × jH) =>
  (if z5.1 = 0 then
  (Option.bind (fM_isHere 116 z5.2) (fun (z7 : Int32 × jH) =>
  (if z7.1 = 0 then
  (Option.bind (fM_isHere 117 z7.2) (fun (z9 : Int32 × jH) =>
  (if z9.1 = 0 then
  (Option.bind (fM_isHere 118 z9.2) (fun (z11 : Int32 × jH) =>
  (if z11.1 = 0 then
  fM_isOwnHere_j71  0 z11.2
  else
  fM_isOwnHere_j66  z11.2)))
  else
  fM_isOwnHere_j66  z9.2)))
  else
  fM_isOwnHere_j66  z7.2)))
  else
  fM_isOwnHere_j66  z5.2)))
  else
  fM_isOwnHere_j66  z3.2)))
  else
  fM_isOwnHere_j66  z1.2)))
theorem kM_isOwnHere {X : jX} {dd : Nat} {p d : Nat} {q : Nat → Nat} {Q : Option Value → jS → Prop}  {h : jH}  (hd : 2 ≤ dd) {z : Int32 × jH} (K : fM_isOwnHere  h = some z) (HQ : Q (some (.int z.1)) (176, jRf p d q, z.2)) :
    jCa X dd 206 [.ref 110] (176, jRf p d q, h) Q := by
  obtain ⟨dd, rfl⟩ : ∃ d9, dd = d9 + 1 := ⟨dd - 1, by omega⟩
  unfold fM_isOwnHere at K
  refine jCa_of (es := jc_206) (pl := [some (.ref 110), none]) (M := jm_206) rfl rfl rfl rfl ?_
  refine jx_next (pc := 0) (pc' := 1) rfl rfl ?_
  refine jx_next (pc := 1) (pc' := 2) rfl rfl ?_
  refine jx_getr2 (pc := 2) rfl jko_110 jr_12_10 ?_
  refine jx_callv (pc := 5) (o := 110) (rest := []) rfl ⟨by decide, by decide⟩ rfl jko_110 (Nat.le_of_ble_eq_true rfl) ?_
  obtain ⟨z1, hz_z1, K⟩ := Option.bind_eq_some_iff.mp K
  refine kM_isHere  jko_113 (by omega) hz_z1 ?_
  refine jx_ifne (pc := 8) rfl (fun hc2 => ?_) (fun hc2 => ?_)
  · replace K := (if_pos hc2).symm.trans K
    refine jx_next (pc := 11) (pc' := 12) rfl rfl ?_
    refine jx_next (pc := 12) (pc' := 13) rfl rfl ?_
    refine jx_getr2 (pc := 13) rfl jko_110 jr_12_11 ?_
    refine jx_callv (pc := 16) (o := 110) (rest := []) rfl ⟨by decide, by decide⟩ rfl jko_110 (Nat.le_of_ble_eq_true rfl) ?_
    obtain ⟨z3, hz_z3, K⟩ := Option.bind_eq_some_iff.mp K
    refine kM_isHere  jko_114 (by omega) hz_z3 ?_
    refine jx_ifne (pc := 19) rfl (fun hc4 => ?_) (fun hc4 => ?_)
    · replace K := (if_pos hc4).symm.trans K
      refine jx_next (pc := 22) (pc' := 23) rfl rfl ?_
      refine jx_next (pc := 23) (pc' := 24) rfl rfl ?_
      refine jx_getr2 (pc := 24) rfl jko_110 jr_12_12 ?_
      refine jx_callv (pc := 27) (o := 110) (rest := []) rfl ⟨by decide, by decide⟩ rfl jko_110 (Nat.le_of_ble_eq_true rfl) ?_
      obtain ⟨z5, hz_z5, K⟩ := Option.bind_eq_some_iff.mp K
      refine kM_isHere  jko_115 (by omega) hz_z5 ?_
      refine jx_ifne (pc := 30) rfl (fun hc6 => ?_) (fun hc6 => ?_)
      · replace K := (if_pos hc6).symm.trans K
        refine jx_next (pc := 33) (pc' := 34) rfl rfl ?_
        refine jx_next (pc := 34) (pc' := 35) rfl rfl ?_
        refine jx_getr2 (pc := 35) rfl jko_110 jr_12_13 ?_
        refine jx_callv (pc := 38) (o := 110) (rest := []) rfl ⟨by decide, by decide⟩ rfl jko_110 (Nat.le_of_ble_eq_true rfl) ?_
        obtain ⟨z7, hz_z7, K⟩ := Option.bind_eq_some_iff.mp K
        refine kM_isHere  jko_116 (by omega) hz_z7 ?_
        refine jx_ifne (pc := 41) rfl (fun hc8 => ?_) (fun hc8 => ?_)
        · replace K := (if_pos hc8).symm.trans K
          refine jx_next (pc := 44) (pc' := 45) rfl rfl ?_
          refine jx_next (pc := 45) (pc' := 46) rfl rfl ?_
          refine jx_getr2 (pc := 46) rfl jko_110 jr_12_14 ?_
          refine jx_callv (pc := 49) (o := 110) (rest := []) rfl ⟨by decide, by decide⟩ rfl jko_110 (Nat.le_of_ble_eq_true rfl) ?_
          obtain ⟨z9, hz_z9, K⟩ := Option.bind_eq_some_iff.mp K
          refine kM_isHere  jko_117 (by omega) hz_z9 ?_
          refine jx_ifne (pc := 52) rfl (fun hc10 => ?_) (fun hc10 => ?_)
          · replace K := (if_pos hc10).symm.trans K
            refine jx_next (pc := 55) (pc' := 56) rfl rfl ?_
            refine jx_next (pc := 56) (pc' := 57) rfl rfl ?_
            refine jx_getr2 (pc := 57) rfl jko_110 jr_12_15 ?_
            refine jx_callv (pc := 60) (o := 110) (rest := []) rfl ⟨by decide, by decide⟩ rfl jko_110 (Nat.le_of_ble_eq_true rfl) ?_
            obtain ⟨z11, hz_z11, K⟩ := Option.bind_eq_some_iff.mp K
            refine kM_isHere  jko_118 (by omega) hz_z11 ?_
            refine jx_ifeq (pc := 63) rfl (fun hc12 => ?_) (fun hc12 => ?_)
            · replace K := (if_pos hc12).symm.trans K
              refine jx_next (pc := 70) (pc' := 71) rfl rfl ?_
              refine jx_le (pl' := [some (.ref 110), none]) (jle_v (jle_n jle_nil)) ?_
              exact kM_isOwnHere_j71  hd K HQ
            · replace K := (if_neg hc12).symm.trans K
              refine jx_le (pl' := [some (.ref 110), none]) (jle_v (jle_n jle_nil)) ?_
              exact kM_isOwnHere_j66  hd K HQ
          · replace K := (if_neg hc10).symm.trans K
            refine jx_le (pl' := [some (.ref 110), none]) (jle_v (jle_n jle_nil)) ?_
            exact kM_isOwnHere_j66  hd K HQ
        · replace K := (if_neg hc8).symm.trans K
          refine jx_le (pl' := [some (.ref 110), none]) (jle_v (jle_n jle_nil)) ?_
          exact kM_isOwnHere_j66  hd K HQ
      · replace K := (if_neg hc6).symm.trans K
        refine jx_le (pl' := [some (.ref 110), none]) (jle_v (jle_n jle_nil)) ?_
        exact kM_isOwnHere_j66  hd K HQ
    · replace K := (if_neg hc4).symm.trans K
      refine jx_le (pl' := [some (.ref 110), none]) (jle_v (jle_n jle_nil)) ?_
      exact kM_isOwnHere_j66  hd K HQ
  · replace K := (if_neg hc2).symm.trans K
    refine jx_le (pl' := [some (.ref 110), none]) (jle_v (jle_n jle_nil)) ?_
    exact kM_isOwnHere_j66  hd K HQ
noncomputable def fM_name_j37  (h : jH) : Option (Int64 × jH) :=
  some (0, (fM_fail 1 (h.1 110 2) h))
theorem kM_name_j37 {X : jX} {dd : Nat} {p d : Nat} {q : Nat → Nat} {Q : Option Value → jS → Prop}  {h : jH}  (hd : 3 ≤ (dd + 1)) {z : Int64 × jH} (K : fM_name_j37  h = some z) (HQ : Q (some (.long z.1)) (176, jRf p d q, z.2)) :
    jEx X (dd + 1) jc_205 37 [some (.ref 110), none, none] [] (176, jRf p d q, h) Q := by
  unfold fM_name_j37 at K
  refine jx_next (pc := 37) (pc' := 38) rfl rfl ?_
  refine jx_next (pc := 38) (pc' := 39) rfl rfl ?_
  refine jx_next (pc := 39) (pc' := 40) rfl rfl ?_
  refine jx_geti (pc := 40) rfl jko_110 ?_
  refine jx_callv (pc := 43) (o := 110) (rest := []) rfl ⟨by decide, by decide⟩ rfl jko_110 (Nat.le_of_ble_eq_true rfl) ?_
  refine kM_fail  (by omega) rfl ?_
  refine jx_next (pc := 46) (pc' := 47) rfl rfl ?_
  obtain rfl := Option.some.inj K
  exact jx_ret (pc := 47) rfl rfl HQ
noncomputable def fM_name_l58_b (v1 : Int64) (h : jH) : Option ((Int64 × jH) ⊕ ((jH) ⊕ (Int64 × jH))) :=
  (if (h.1 110 2) < (h.1 110 3) then
  (if jin (h.1 110 2) 1600 then
  (if (fM_isLetter (h.1 111 (h.1 110 2).toNatClampNeg)) = 0 then
  some (.inr (.inr (v1, h)))
  else
  (if ((h.1 110 2) - (h.1 110 35)) = 6 then
  some (.inr (.inl h))
  else
  (if jin (h.1 110 2) 1600 then
  some (.inl ((((27 * v1) + ((h.1 111 (h.1 110 2).toNatClampNeg).toInt64)) - 97) + 1, jhI h 110 2 ((h.1 110 2) + 1)))
  else none)))
  else none)
  else
  some (.inr (.inr (v1, h))))
noncomputable def fM_name_l58  : (Int64 × jH) → Option ((Int64 × jH) ⊕ ((jH) ⊕ (Int64 × jH))) :=
  fun (s : Int64 × jH) => fM_name_l58_b s.1 s.2
theorem kM_name_l58_b {X : jX} {dd : Nat} {p d : Nat} {q : Nat → Nat} {Q : Option Value → jS → Prop} {v1 : Int64} {h : jH}  (hd : 3 ≤ (dd + 1)) {z : (Int64 × jH) ⊕ ((jH) ⊕ (Int64 × jH))} (K : fM_name_l58_b v1 h = some z) (HL : ∀ s : Int64 × jH, z = .inl s → jEx X (dd + 1) jc_205 58 [some (.ref 110), some (.long s.1), none] [] (176, jRf p d q, s.2) Q) (HE0 : ∀ x : jH, z = .inr (.inl x) → jEx X (dd + 1) jc_205 98 [some (.ref 110), none, none] [] (176, jRf p d q, x) Q) (HE1 : ∀ x : Int64 × jH, z = .inr (.inr x) → jEx X (dd + 1) jc_205 145 [some (.ref 110), some (.long x.1), none] [] (176, jRf p d q, x.2) Q) :
    jEx X (dd + 1) jc_205 58 [some (.ref 110), some (.long v1), none] [] (176, jRf p d q, h) Q := by
  unfold fM_name_l58_b at K
  refine jx_next (pc := 58) (pc' := 59) rfl rfl ?_
  refine jx_geti (pc := 59) rfl jko_110 ?_
  refine jx_next (pc := 62) (pc' := 63) rfl rfl ?_
  refine jx_geti (pc := 63) rfl jko_110 ?_
  refine jx_icge (pc := 66) rfl (fun hc9 => ?_) (fun hc9 => ?_)
  · replace K := (if_pos hc9).symm.trans K
    refine jx_next (pc := 69) (pc' := 70) rfl rfl ?_
    refine jx_getr2 (pc := 70) rfl jko_110 jr_12_0 ?_
    refine jx_next (pc := 73) (pc' := 74) rfl rfl ?_
    refine jx_geti (pc := 74) rfl jko_110 ?_
    obtain ⟨hg10, K⟩ := jguard K
    refine jx_iald2 (pc := 77) rfl jko_111 jno_111 hg10 ?_
    refine jx_calls (pc := 78) rfl (Nat.le_of_ble_eq_true rfl) (Nat.le_of_ble_eq_true rfl) ?_
    refine kM_isLetter  (by omega) rfl ?_
    refine jx_ifeq (pc := 81) rfl (fun hc12 => ?_) (fun hc12 => ?_)
    · replace K := (if_pos hc12).symm.trans K
      obtain rfl := Option.some.inj K
      refine jx_le (pl' := [some (.ref 110), some (.long v1), none]) (jle_v (jle_v (jle_n jle_nil))) ?_
      exact HE1 _ rfl
    · replace K := (if_neg hc12).symm.trans K
      refine jx_next (pc := 84) (pc' := 85) rfl rfl ?_
      refine jx_geti (pc := 85) rfl jko_110 ?_
      refine jx_next (pc := 88) (pc' := 89) rfl rfl ?_
      refine jx_geti (pc := 89) rfl jko_110 ?_
      refine jx_next (pc := 92) (pc' := 93) rfl rfl ?_
      refine jx_next (pc := 93) (pc' := 95) rfl rfl ?_
      refine jx_icne (pc := 95) rfl (fun hc13 => ?_) (fun hc13 => ?_)
      · replace K := (if_pos hc13).symm.trans K
        obtain rfl := Option.some.inj K
        refine jx_le (pl' := [some (.ref 110), none, none]) (jle_v (jle_n (jle_n jle_nil))) ?_
        exact HE0 _ rfl
      · replace K := (if_neg hc13).symm.trans K
        refine jx_next (pc := 109) (pc' := 112) rfl rfl ?_
        refine jx_next (pc := 112) (pc' := 113) rfl rfl ?_
        refine jx_next (pc := 113) (pc' := 114) rfl rfl ?_
        refine jx_next (pc := 114) (pc' := 115) rfl rfl ?_
        refine jx_getr2 (pc := 115) rfl jko_110 jr_12_0 ?_
        refine jx_next (pc := 118) (pc' := 119) rfl rfl ?_
        refine jx_geti (pc := 119) rfl jko_110 ?_
        obtain ⟨hg14, K⟩ := jguard K
        refine jx_iald2 (pc := 122) rfl jko_111 jno_111 hg14 ?_
        refine jx_next (pc := 123) (pc' := 124) rfl rfl ?_
        refine jx_next (pc := 124) (pc' := 125) rfl rfl ?_
        refine jx_next (pc := 125) (pc' := 128) rfl rfl ?_
        refine jx_next (pc := 128) (pc' := 129) rfl rfl ?_
        refine jx_next (pc := 129) (pc' := 130) rfl rfl ?_
        refine jx_next (pc := 130) (pc' := 131) rfl rfl ?_
        refine jx_stln (pc := 131) (p2 := [some (.ref 110), some (.long ((((27 * v1) + ((h.1 111 (h.1 110 2).toNatClampNeg).toInt64)) - 97) + 1)), none]) rfl (jlt rfl) rfl ?_
        refine jx_next (pc := 132) (pc' := 133) rfl rfl ?_
        refine jx_next (pc := 133) (pc' := 134) rfl rfl ?_
        refine jx_geti (pc := 134) rfl jko_110 ?_
        refine jx_next (pc := 137) (pc' := 138) rfl rfl ?_
        refine jx_next (pc := 138) (pc' := 139) rfl rfl ?_
        refine jx_puti (pc := 139) rfl jko_110 ?_
        refine jx_next (pc := 142) (pc' := 58) rfl rfl ?_
        obtain rfl := Option.some.inj K
        refine jx_le (pl' := [some (.ref 110), some (.long ((((27 * v1) + ((h.1 111 (h.1 110 2).toNatClampNeg).toInt64)) - 97) + 1)), none]) (jle_v (jle_v (jle_n jle_nil))) ?_
        exact HL ((((27 * v1) + ((h.1 111 (h.1 110 2).toNatClampNeg).toInt64)) - 97) + 1, jhI h 110 2 ((h.1 110 2) + 1)) rfl
  · replace K := (if_neg hc9).symm.trans K
    obtain rfl := Option.some.inj K
    refine jx_le (pl' := [some (.ref 110), some (.long v1), none]) (jle_v (jle_v (jle_n jle_nil))) ?_
    exact HE1 _ rfl
theorem kM_name_l58_w {X : jX} {dd : Nat} {p d : Nat} {q : Nat → Nat} {Q : Option Value → jS → Prop}   (hd : 3 ≤ (dd + 1)) {s : Int64 × jH} {x : (jH) ⊕ (Int64 × jH)} (K : jlim (fM_name_l58 ) s = some x) (HE0 : ∀ x0 : jH, x = .inl x0 → jEx X (dd + 1) jc_205 98 [some (.ref 110), none, none] [] (176, jRf p d q, x0) Q) (HE1 : ∀ x0 : Int64 × jH, x = .inr x0 → jEx X (dd + 1) jc_205 145 [some (.ref 110), some (.long x0.1), none] [] (176, jRf p d q, x0.2) Q) :
    jEx X (dd + 1) jc_205 58 [some (.ref 110), some (.long s.1), none] [] (176, jRf p d q, s.2) Q := by
  refine jlim_ok (G := fun s : Int64 × jH => jEx X (dd + 1) jc_205 58 [some (.ref 110), some (.long s.1), none] [] (176, jRf p d q, s.2) Q) (GX := fun x : (jH) ⊕ (Int64 × jH) => (∀ x0 : jH, x = .inl x0 → jEx X (dd + 1) jc_205 98 [some (.ref 110), none, none] [] (176, jRf p d q, x0) Q) ∧ (∀ x0 : Int64 × jH, x = .inr x0 → jEx X (dd + 1) jc_205 145 [some (.ref 110), some (.long x0.1), none] [] (176, jRf p d q, x0.2) Q)) (fun s z hz HL HE => ?_) K ⟨HE0, HE1⟩
  exact kM_name_l58_b  hd hz HL (fun x hx => (HE _ hx).1 x rfl) (fun x hx => (HE _ hx).2 x rfl)
/-- AndGuestModel.name()J -/
noncomputable def fM_name  (h : jH) : Option (Int64 × jH) :=
  (if (h.1 110 5) = 0 then
  (Option.bind (fM_look h) (fun (z2 : Int32 × jH) =>
  (if (fM_isLetter z2.1) = 0 then
  fM_name_j37  z2.2
  else
  (if (z2.2.1 110 2) = (z2.2.1 110 4) then
  fM_name_j37  z2.2
  else
  (Option.bind (fM_isOwnHere z2.2) (fun (z7 : Int32 × jH) =>
  (if z7.1 = 0 then
  (Option.bind (jlim (fM_name_l58 ) (0, jhI z7.2 110 35 (z7.2.1 110 2))) (fun (x15 : (jH) ⊕ (Int64 × jH)) => Sum.elim (fun (y15 : jH) =>
  some (0, (fM_fail 1 (y15.1 110 2) y15))) (fun (y15 : Int64 × jH) =>
  some (y15.1, jhI y15.2 110 4 (y15.2.1 110 2))) x15))
  else
  fM_name_j37  z7.2)))))))
  else
  some (0, h))
theorem kM_name {X : jX} {dd : Nat} {p d : Nat} {q : Nat → Nat} {Q : Option Value → jS → Prop}  {h : jH}  (hd : 3 ≤ dd) {z : Int64 × jH} (K : fM_name  h = some z) (HQ : Q (some (.long z.1)) (176, jRf p d q, z.2)) :
    jCa X dd 205 [.ref 110] (176, jRf p d q, h) Q := by
  obtain ⟨dd, rfl⟩ : ∃ d9, dd = d9 + 1 := ⟨dd - 1, by omega⟩
  unfold fM_name at K
  refine jCa_of (es := jc_205) (pl := [some (.ref 110), none, none]) (M := jm_205) rfl rfl rfl rfl ?_
  refine jx_next (pc := 0) (pc' := 1) rfl rfl ?_
  refine jx_geti (pc := 1) rfl jko_110 ?_
  refine jx_ifeq (pc := 4) rfl (fun hc1 => ?_) (fun hc1 => ?_)
  · replace K := (if_pos hc1).symm.trans K
    refine jx_next (pc := 9) (pc' := 10) rfl rfl ?_
    refine jx_callv (pc := 10) (o := 110) (rest := []) rfl ⟨by decide, by decide⟩ rfl jko_110 (Nat.le_of_ble_eq_true rfl) ?_
    obtain ⟨z2, hz_z2, K⟩ := Option.bind_eq_some_iff.mp K
    refine kM_look  (by omega) hz_z2 ?_
    refine jx_calls (pc := 13) rfl (Nat.le_of_ble_eq_true rfl) (Nat.le_of_ble_eq_true rfl) ?_
    refine kM_isLetter  (by omega) rfl ?_
    refine jx_ifeq (pc := 16) rfl (fun hc4 => ?_) (fun hc4 => ?_)
    · replace K := (if_pos hc4).symm.trans K
      refine jx_le (pl' := [some (.ref 110), none, none]) (jle_v (jle_n (jle_n jle_nil))) ?_
      exact kM_name_j37  hd K HQ
    · replace K := (if_neg hc4).symm.trans K
      refine jx_next (pc := 19) (pc' := 20) rfl rfl ?_
      refine jx_geti (pc := 20) rfl jko_110 ?_
      refine jx_next (pc := 23) (pc' := 24) rfl rfl ?_
      refine jx_geti (pc := 24) rfl jko_110 ?_
      refine jx_iceq (pc := 27) rfl (fun hc6 => ?_) (fun hc6 => ?_)
      · replace K := (if_pos hc6).symm.trans K
        refine jx_le (pl' := [some (.ref 110), none, none]) (jle_v (jle_n (jle_n jle_nil))) ?_
        exact kM_name_j37  hd K HQ
      · replace K := (if_neg hc6).symm.trans K
        refine jx_next (pc := 30) (pc' := 31) rfl rfl ?_
        refine jx_callv (pc := 31) (o := 110) (rest := []) rfl ⟨by decide, by decide⟩ rfl jko_110 (Nat.le_of_ble_eq_true rfl) ?_
        obtain ⟨z7, hz_z7, K⟩ := Option.bind_eq_some_iff.mp K
        refine kM_isOwnHere  (by omega) hz_z7 ?_
        refine jx_ifeq (pc := 34) rfl (fun hc8 => ?_) (fun hc8 => ?_)
        · replace K := (if_pos hc8).symm.trans K
          refine jx_next (pc := 48) (pc' := 49) rfl rfl ?_
          refine jx_next (pc := 49) (pc' := 50) rfl rfl ?_
          refine jx_geti (pc := 50) rfl jko_110 ?_
          refine jx_puti (pc := 53) rfl jko_110 ?_
          refine jx_next (pc := 56) (pc' := 57) rfl rfl ?_
          refine jx_stln (pc := 57) (p2 := [some (.ref 110), some (.long 0), none]) rfl (jlt rfl) rfl ?_
          refine jx_le (pl' := [some (.ref 110), some (.long 0), none]) (jle_v (jle_v (jle_n jle_nil))) ?_
          obtain ⟨x15, hz_x15, K⟩ := Option.bind_eq_some_iff.mp K
          refine kM_name_l58_w  hd hz_x15 (fun y15 hx9 => ?_) (fun y15 hx9 => ?_)
          · subst hx9
            refine jx_next (pc := 98) (pc' := 99) rfl rfl ?_
            refine jx_next (pc := 99) (pc' := 100) rfl rfl ?_
            refine jx_next (pc := 100) (pc' := 101) rfl rfl ?_
            refine jx_geti (pc := 101) rfl jko_110 ?_
            refine jx_callv (pc := 104) (o := 110) (rest := []) rfl ⟨by decide, by decide⟩ rfl jko_110 (Nat.le_of_ble_eq_true rfl) ?_
            refine kM_fail  (by omega) rfl ?_
            refine jx_next (pc := 107) (pc' := 108) rfl rfl ?_
            obtain rfl := Option.some.inj K
            exact jx_ret (pc := 108) rfl rfl HQ
          · subst hx9
            refine jx_next (pc := 145) (pc' := 146) rfl rfl ?_
            refine jx_next (pc := 146) (pc' := 147) rfl rfl ?_
            refine jx_geti (pc := 147) rfl jko_110 ?_
            refine jx_puti (pc := 150) rfl jko_110 ?_
            refine jx_next (pc := 153) (pc' := 154) rfl rfl ?_
            obtain rfl := Option.some.inj K
            exact jx_ret (pc := 154) rfl rfl HQ
        · replace K := (if_neg hc8).symm.trans K
          refine jx_le (pl' := [some (.ref 110), none, none]) (jle_v (jle_n (jle_n jle_nil))) ?_
          exact kM_name_j37  hd K HQ
  · replace K := (if_neg hc1).symm.trans K
    refine jx_next (pc := 7) (pc' := 8) rfl rfl ?_
    obtain rfl := Option.some.inj K
    exact jx_ret (pc := 8) rfl rfl HQ
