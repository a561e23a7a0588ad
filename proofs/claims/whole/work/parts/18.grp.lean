/-! The class's reading of SUM and TEST: seven methods that call each other; g stands for them -/
abbrev jGr : Type := Nat → Nat → Int32 → Int32 → jH → Option jH
def jGk (X : jX) (p d : Nat) (q : Nat → Nat) (g : jGr) (dd : Nat) : Prop := (∀ {Q : Option Value → jS → Prop} {o : Nat} {a b : Int32} {h z : jH}, jcl 176 o = 5 → g 0 o a b h = some z → Q none (176, jRf p d q, z) → jCa X dd 170 [.ref o, .ref 6, .int a] (176, jRf p d q, h) Q) ∧ (∀ {Q : Option Value → jS → Prop} {o : Nat} {a b : Int32} {h z : jH}, jcl 176 o = 5 → g 1 o a b h = some z → Q none (176, jRf p d q, z) → jCa X dd 171 [.ref o, .ref 6, .int a] (176, jRf p d q, h) Q) ∧ (∀ {Q : Option Value → jS → Prop} {o : Nat} {a b : Int32} {h z : jH}, jcl 176 o = 5 → g 2 o a b h = some z → Q none (176, jRf p d q, z) → jCa X dd 172 [.ref o, .ref 6, .int a] (176, jRf p d q, h) Q) ∧ (∀ {Q : Option Value → jS → Prop} {o : Nat} {a b : Int32} {h z : jH}, jcl 176 o = 5 → g 3 o a b h = some z → Q none (176, jRf p d q, z) → jCa X dd 53 [.ref o, .ref 6, .int a] (176, jRf p d q, h) Q) ∧ (∀ {Q : Option Value → jS → Prop} {o : Nat} {a b : Int32} {h z : jH}, jcl 176 o = 5 → g 4 o a b h = some z → Q none (176, jRf p d q, z) → jCa X dd 55 [.ref o, .ref 6, .int a] (176, jRf p d q, h) Q) ∧ (∀ {Q : Option Value → jS → Prop} {o : Nat} {a b : Int32} {h z : jH}, jcl 176 o = 5 → g 5 o a b h = some z → Q none (176, jRf p d q, z) → jCa X dd 56 [.ref o, .ref 6, .int a] (176, jRf p d q, h) Q) ∧ (∀ {Q : Option Value → jS → Prop} {o : Nat} {a b : Int32} {h z : jH}, jcl 176 o = 5 → g 6 o a b h = some z → Q none (176, jRf p d q, z) → jCa X dd 61 [.ref o, .ref 6, .int a, .int b] (176, jRf p d q, h) Q)
noncomputable def fFo_readTest_g_l8_b (g : jGr) (o : Nat) (v2 : Int32) (v3 : Int32) (h : jH) : Option ((Int32 × jH) ⊕ (jH)) :=
  (if v3 < 1600 then
  (Option.bind (fRd_takesWord 1019 h) (fun (z3 : Int32 × jH) =>
  (if z3.1 = 0 then
  some (.inr z3.2)
  else
  (Option.bind (g 1 o v2 0 z3.2) (fun (z5 : jH) =>
  (Option.bind (fFo_add o (-21) z5) (fun (z6 : jH) =>
  some (.inl (v3 + 1, z6)))))))))
  else
  some (.inr h))
noncomputable def fFo_readTest_g_l8 (g : jGr) (o : Nat) (v2 : Int32) : (Int32 × jH) → Option ((Int32 × jH) ⊕ (jH)) :=
  fun (s : Int32 × jH) => fFo_readTest_g_l8_b g o v2 s.1 s.2
theorem kFo_readTest_g_l8_b {g : jGr} {X : jX} {dd : Nat} {p d : Nat} {q : Nat → Nat} {Q : Option Value → jS → Prop} {o : Nat} {v2 : Int32} {v3 : Int32} {h : jH} (Hg : jGk X p d q g dd) (hP : jOK p d q) (ho : jcl 176 o = 5) (hd : 12 ≤ (dd + 1)) {z : (Int32 × jH) ⊕ (jH)} (K : fFo_readTest_g_l8_b g o v2 v3 h = some z) (HL : ∀ s : Int32 × jH, z = .inl s → jEx X (dd + 1) jc_170 8 [some (.ref o), some (.ref 6), some (.int v2), some (.int s.1)] [] (176, jRf p d q, s.2) Q) (HE0 : ∀ x : jH, z = .inr x → jEx X (dd + 1) jc_170 43 [none, none, none, none] [] (176, jRf p d q, x) Q) :
    jEx X (dd + 1) jc_170 8 [some (.ref o), some (.ref 6), some (.int v2), some (.int v3)] [] (176, jRf p d q, h) Q := by
  unfold fFo_readTest_g_l8_b at K
  refine jx_next (pc := 8) (pc' := 9) rfl rfl ?_
  refine jx_next (pc := 9) (pc' := 12) rfl rfl ?_
  refine jx_icge (pc := 12) rfl (fun hc2 => ?_) (fun hc2 => ?_)
  · replace K := (if_pos hc2).symm.trans K
    refine jx_next (pc := 15) (pc' := 16) rfl rfl ?_
    refine jx_next (pc := 16) (pc' := 19) rfl rfl ?_
    refine jx_callv (pc := 19) (o := 6) (rest := []) rfl ⟨by decide, by decide⟩ rfl jko_6 (Nat.le_of_ble_eq_true rfl) ?_
    obtain ⟨z3, hz_z3, K⟩ := Option.bind_eq_some_iff.mp K
    refine kRd_takesWord hP (by decide) (by omega) hz_z3 ?_
    refine jx_ifeq (pc := 22) rfl (fun hc4 => ?_) (fun hc4 => ?_)
    · replace K := (if_pos hc4).symm.trans K
      obtain rfl := Option.some.inj K
      refine jx_le (pl' := [none, none, none, none]) (jle_n (jle_n (jle_n (jle_n jle_nil)))) ?_
      exact HE0 _ rfl
    · replace K := (if_neg hc4).symm.trans K
      refine jx_next (pc := 25) (pc' := 26) rfl rfl ?_
      refine jx_next (pc := 26) (pc' := 27) rfl rfl ?_
      refine jx_next (pc := 27) (pc' := 28) rfl rfl ?_
      refine jx_callv (pc := 28) (o := o) (rest := []) rfl ⟨by decide, by decide⟩ rfl ho (Nat.le_of_ble_eq_true rfl) ?_
      obtain ⟨z5, hz_z5, K⟩ := Option.bind_eq_some_iff.mp K
      refine (Hg.2.1) ho hz_z5 ?_
      refine jx_next (pc := 31) (pc' := 32) rfl rfl ?_
      refine jx_next (pc := 32) (pc' := 34) rfl rfl ?_
      refine jx_callv (pc := 34) (o := o) (rest := []) rfl ⟨by decide, by decide⟩ rfl ho (Nat.le_of_ble_eq_true rfl) ?_
      obtain ⟨z6, hz_z6, K⟩ := Option.bind_eq_some_iff.mp K
      refine kFo_add hP ho (by omega) hz_z6 ?_
      refine jx_inc (pc := 37) (x := v3) (p2 := [some (.ref o), some (.ref 6), some (.int v2), some (.int (v3 + 1))]) rfl rfl (jlt rfl) rfl ?_
      refine jx_next (pc := 40) (pc' := 8) rfl rfl ?_
      obtain rfl := Option.some.inj K
      refine jx_le (pl' := [some (.ref o), some (.ref 6), some (.int v2), some (.int (v3 + 1))]) (jle_v (jle_v (jle_v (jle_v jle_nil)))) ?_
      exact HL (v3 + 1, z6) rfl
  · replace K := (if_neg hc2).symm.trans K
    obtain rfl := Option.some.inj K
    refine jx_le (pl' := [none, none, none, none]) (jle_n (jle_n (jle_n (jle_n jle_nil)))) ?_
    exact HE0 _ rfl
theorem kFo_readTest_g_l8_w {g : jGr} {X : jX} {dd : Nat} {p d : Nat} {q : Nat → Nat} {Q : Option Value → jS → Prop} {o : Nat} {v2 : Int32} (Hg : jGk X p d q g dd) (hP : jOK p d q) (ho : jcl 176 o = 5) (hd : 12 ≤ (dd + 1)) {s : Int32 × jH} {x : jH} (K : jlim (fFo_readTest_g_l8 g o v2) s = some x) (HE : jEx X (dd + 1) jc_170 43 [none, none, none, none] [] (176, jRf p d q, x) Q) :
    jEx X (dd + 1) jc_170 8 [some (.ref o), some (.ref 6), some (.int v2), some (.int s.1)] [] (176, jRf p d q, s.2) Q := by
  refine jlim_ok (G := fun s : Int32 × jH => jEx X (dd + 1) jc_170 8 [some (.ref o), some (.ref 6), some (.int v2), some (.int s.1)] [] (176, jRf p d q, s.2) Q) (GX := fun x : jH => jEx X (dd + 1) jc_170 43 [none, none, none, none] [] (176, jRf p d q, x) Q) (fun s z hz HL HE => ?_) K HE
  exact kFo_readTest_g_l8_b Hg hP ho hd hz HL HE
/-- AndGuest$Formula.readTest(LAndGuest$Reader;I)V -/
noncomputable def fFo_readTest_g (g : jGr) (o : Nat) (v2 : Int32) (h : jH) : Option jH :=
  (Option.bind (g 1 o v2 0 h) (fun (z1 : jH) =>
  (Option.bind (jlim (fFo_readTest_g_l8 g o v2) (0, z1)) (fun (x7 : jH) =>
  some x7))))
theorem kFo_readTest_g {g : jGr} {X : jX} {dd : Nat} {p d : Nat} {q : Nat → Nat} {Q : Option Value → jS → Prop} {o : Nat} {v2 : Int32} {h : jH} (Hg : jGk X p d q g dd) (hP : jOK p d q) (ho : jcl 176 o = 5) (hd : 12 ≤ (dd + 1)) {z : jH} (K : fFo_readTest_g g o v2 h = some z) (HQ : Q none (176, jRf p d q, z)) :
    jCa X (dd + 1) 170 [.ref o, .ref 6, .int v2] (176, jRf p d q, h) Q := by
  unfold fFo_readTest_g at K
  refine jCa_of (es := jc_170) (pl := [some (.ref o), some (.ref 6), some (.int v2), none]) (M := jm_170) rfl rfl rfl rfl ?_
  refine jx_next (pc := 0) (pc' := 1) rfl rfl ?_
  refine jx_next (pc := 1) (pc' := 2) rfl rfl ?_
  refine jx_next (pc := 2) (pc' := 3) rfl rfl ?_
  refine jx_callv (pc := 3) (o := o) (rest := []) rfl ⟨by decide, by decide⟩ rfl ho (Nat.le_of_ble_eq_true rfl) ?_
  obtain ⟨z1, hz_z1, K⟩ := Option.bind_eq_some_iff.mp K
  refine (Hg.2.1) ho hz_z1 ?_
  refine jx_next (pc := 6) (pc' := 7) rfl rfl ?_
  refine jx_stin (pc := 7) (p2 := [some (.ref o), some (.ref 6), some (.int v2), some (.int 0)]) rfl (jlt rfl) rfl ?_
  refine jx_le (pl' := [some (.ref o), some (.ref 6), some (.int v2), some (.int 0)]) (jle_v (jle_v (jle_v (jle_v jle_nil)))) ?_
  obtain ⟨x7, hz_x7, K⟩ := Option.bind_eq_some_iff.mp K
  refine kFo_readTest_g_l8_w Hg hP ho hd hz_x7 ?_
  obtain rfl := Option.some.inj K
  exact jx_ret (pc := 43) rfl rfl HQ
noncomputable def fFo_readBoth_g_l8_b (g : jGr) (o : Nat) (v2 : Int32) (v3 : Int32) (h : jH) : Option ((Int32 × jH) ⊕ (jH)) :=
  (if v3 < 1600 then
  (Option.bind (fRd_takesWord 1020 h) (fun (z3 : Int32 × jH) =>
  (if z3.1 = 0 then
  some (.inr z3.2)
  else
  (Option.bind (g 2 o v2 0 z3.2) (fun (z5 : jH) =>
  (Option.bind (fFo_add o (-20) z5) (fun (z6 : jH) =>
  some (.inl (v3 + 1, z6)))))))))
  else
  some (.inr h))
noncomputable def fFo_readBoth_g_l8 (g : jGr) (o : Nat) (v2 : Int32) : (Int32 × jH) → Option ((Int32 × jH) ⊕ (jH)) :=
  fun (s : Int32 × jH) => fFo_readBoth_g_l8_b g o v2 s.1 s.2
theorem kFo_readBoth_g_l8_b {g : jGr} {X : jX} {dd : Nat} {p d : Nat} {q : Nat → Nat} {Q : Option Value → jS → Prop} {o : Nat} {v2 : Int32} {v3 : Int32} {h : jH} (Hg : jGk X p d q g dd) (hP : jOK p d q) (ho : jcl 176 o = 5) (hd : 12 ≤ (dd + 1)) {z : (Int32 × jH) ⊕ (jH)} (K : fFo_readBoth_g_l8_b g o v2 v3 h = some z) (HL : ∀ s : Int32 × jH, z = .inl s → jEx X (dd + 1) jc_171 8 [some (.ref o), some (.ref 6), some (.int v2), some (.int s.1)] [] (176, jRf p d q, s.2) Q) (HE0 : ∀ x : jH, z = .inr x → jEx X (dd + 1) jc_171 43 [none, none, none, none] [] (176, jRf p d q, x) Q) :
    jEx X (dd + 1) jc_171 8 [some (.ref o), some (.ref 6), some (.int v2), some (.int v3)] [] (176, jRf p d q, h) Q := by
  unfold fFo_readBoth_g_l8_b at K
  refine jx_next (pc := 8) (pc' := 9) rfl rfl ?_
  refine jx_next (pc := 9) (pc' := 12) rfl rfl ?_
  refine jx_icge (pc := 12) rfl (fun hc2 => ?_) (fun hc2 => ?_)
  · replace K := (if_pos hc2).symm.trans K
    refine jx_next (pc := 15) (pc' := 16) rfl rfl ?_
    refine jx_next (pc := 16) (pc' := 19) rfl rfl ?_
    refine jx_callv (pc := 19) (o := 6) (rest := []) rfl ⟨by decide, by decide⟩ rfl jko_6 (Nat.le_of_ble_eq_true rfl) ?_
    obtain ⟨z3, hz_z3, K⟩ := Option.bind_eq_some_iff.mp K
    refine kRd_takesWord hP (by decide) (by omega) hz_z3 ?_
    refine jx_ifeq (pc := 22) rfl (fun hc4 => ?_) (fun hc4 => ?_)
    · replace K := (if_pos hc4).symm.trans K
      obtain rfl := Option.some.inj K
      refine jx_le (pl' := [none, none, none, none]) (jle_n (jle_n (jle_n (jle_n jle_nil)))) ?_
      exact HE0 _ rfl
    · replace K := (if_neg hc4).symm.trans K
      refine jx_next (pc := 25) (pc' := 26) rfl rfl ?_
      refine jx_next (pc := 26) (pc' := 27) rfl rfl ?_
      refine jx_next (pc := 27) (pc' := 28) rfl rfl ?_
      refine jx_callv (pc := 28) (o := o) (rest := []) rfl ⟨by decide, by decide⟩ rfl ho (Nat.le_of_ble_eq_true rfl) ?_
      obtain ⟨z5, hz_z5, K⟩ := Option.bind_eq_some_iff.mp K
      refine (Hg.2.2.1) ho hz_z5 ?_
      refine jx_next (pc := 31) (pc' := 32) rfl rfl ?_
      refine jx_next (pc := 32) (pc' := 34) rfl rfl ?_
      refine jx_callv (pc := 34) (o := o) (rest := []) rfl ⟨by decide, by decide⟩ rfl ho (Nat.le_of_ble_eq_true rfl) ?_
      obtain ⟨z6, hz_z6, K⟩ := Option.bind_eq_some_iff.mp K
      refine kFo_add hP ho (by omega) hz_z6 ?_
      refine jx_inc (pc := 37) (x := v3) (p2 := [some (.ref o), some (.ref 6), some (.int v2), some (.int (v3 + 1))]) rfl rfl (jlt rfl) rfl ?_
      refine jx_next (pc := 40) (pc' := 8) rfl rfl ?_
      obtain rfl := Option.some.inj K
      refine jx_le (pl' := [some (.ref o), some (.ref 6), some (.int v2), some (.int (v3 + 1))]) (jle_v (jle_v (jle_v (jle_v jle_nil)))) ?_
      exact HL (v3 + 1, z6) rfl
  · replace K := (if_neg hc2).symm.trans K
    obtain rfl := Option.some.inj K
    refine jx_le (pl' := [none, none, none, none]) (jle_n (jle_n (jle_n (jle_n jle_nil)))) ?_
    exact HE0 _ rfl
theorem kFo_readBoth_g_l8_w {g : jGr} {X : jX} {dd : Nat} {p d : Nat} {q : Nat → Nat} {Q : Option Value → jS → Prop} {o : Nat} {v2 : Int32} (Hg : jGk X p d q g dd) (hP : jOK p d q) (ho : jcl 176 o = 5) (hd : 12 ≤ (dd + 1)) {s : Int32 × jH} {x : jH} (K : jlim (fFo_readBoth_g_l8 g o v2) s = some x) (HE : jEx X (dd + 1) jc_171 43 [none, none, none, none] [] (176, jRf p d q, x) Q) :
    jEx X (dd + 1) jc_171 8 [some (.ref o), some (.ref 6), some (.int v2), some (.int s.1)] [] (176, jRf p d q, s.2) Q := by
  refine jlim_ok (G := fun s : Int32 × jH => jEx X (dd + 1) jc_171 8 [some (.ref o), some (.ref 6), some (.int v2), some (.int s.1)] [] (176, jRf p d q, s.2) Q) (GX := fun x : jH => jEx X (dd + 1) jc_171 43 [none, none, none, none] [] (176, jRf p d q, x) Q) (fun s z hz HL HE => ?_) K HE
  exact kFo_readBoth_g_l8_b Hg hP ho hd hz HL HE
/-- AndGuest$Formula.readBoth(LAndGuest$Reader;I)V -/
noncomputable def fFo_readBoth_g (g : jGr) (o : Nat) (v2 : Int32) (h : jH) : Option jH :=
  (Option.bind (g 2 o v2 0 h) (fun (z1 : jH) =>
  (Option.bind (jlim (fFo_readBoth_g_l8 g o v2) (0, z1)) (fun (x7 : jH) =>
  some x7))))
theorem kFo_readBoth_g {g : jGr} {X : jX} {dd : Nat} {p d : Nat} {q : Nat → Nat} {Q : Option Value → jS → Prop} {o : Nat} {v2 : Int32} {h : jH} (Hg : jGk X p d q g dd) (hP : jOK p d q) (ho : jcl 176 o = 5) (hd : 12 ≤ (dd + 1)) {z : jH} (K : fFo_readBoth_g g o v2 h = some z) (HQ : Q none (176, jRf p d q, z)) :
    jCa X (dd + 1) 171 [.ref o, .ref 6, .int v2] (176, jRf p d q, h) Q := by
  unfold fFo_readBoth_g at K
  refine jCa_of (es := jc_171) (pl := [some (.ref o), some (.ref 6), some (.int v2), none]) (M := jm_171) rfl rfl rfl rfl ?_
  refine jx_next (pc := 0) (pc' := 1) rfl rfl ?_
  refine jx_next (pc := 1) (pc' := 2) rfl rfl ?_
  refine jx_next (pc := 2) (pc' := 3) rfl rfl ?_
  refine jx_callv (pc := 3) (o := o) (rest := []) rfl ⟨by decide, by decide⟩ rfl ho (Nat.le_of_ble_eq_true rfl) ?_
  obtain ⟨z1, hz_z1, K⟩ := Option.bind_eq_some_iff.mp K
  refine (Hg.2.2.1) ho hz_z1 ?_
  refine jx_next (pc := 6) (pc' := 7) rfl rfl ?_
  refine jx_stin (pc := 7) (p2 := [some (.ref o), some (.ref 6), some (.int v2), some (.int 0)]) rfl (jlt rfl) rfl ?_
  refine jx_le (pl' := [some (.ref o), some (.ref 6), some (.int v2), some (.int 0)]) (jle_v (jle_v (jle_v (jle_v jle_nil)))) ?_
  obtain ⟨x7, hz_x7, K⟩ := Option.bind_eq_some_iff.mp K
  refine kFo_readBoth_g_l8_w Hg hP ho hd hz_x7 ?_
  obtain rfl := Option.some.inj K
  exact jx_ret (pc := 43) rfl rfl HQ
/-- AndGuest$Formula.readFact(LAndGuest$Reader;I)V -/
noncomputable def fFo_readFact_g (g : jGr) (o : Nat) (v2 : Int32) (h : jH) : Option jH :=
  (if (fRd_standsWord 1021 h) = 0 then
  (if (fRd_standsSign 91 h) = 0 then
  (Option.bind (fRd_takesWord 1022 h) (fun (z5 : Int32 × jH) =>
  (if z5.1 = 0 then
  (Option.bind (g 3 o v2 0 z5.2) (fun (z7 : jH) =>
  (Option.bind (fFo_readSign z7) (fun (z8 : Int32 × jH) =>
  (Option.bind (g 3 o v2 0 z8.2) (fun (z9 : jH) =>
  (Option.bind (fFo_add o z8.1 z9) (fun (z10 : jH) =>
  some z10))))))))
  else
  (Option.bind (fFo_add o 1 z5.2) (fun (z11 : jH) =>
  some z11)))))
  else
  (if ((fFo_opens v2 h).1) = 0 then
  some ((fFo_opens v2 h).2)
  else
  (Option.bind (fRd_takesSign 91 ((fFo_opens v2 h).2)) (fun (z14 : Int32 × jH) =>
  (Option.bind (g 0 o (v2 + 1) 0 z14.2) (fun (z15 : jH) =>
  (Option.bind (fRd_wantsSign 93 z15) (fun (z16 : jH) =>
  some z16))))))))
  else
  (if ((fFo_opens v2 h).1) = 0 then
  some ((fFo_opens v2 h).2)
  else
  (Option.bind (fRd_takesWord 1021 ((fFo_opens v2 h).2)) (fun (z19 : Int32 × jH) =>
  (Option.bind (g 2 o (v2 + 1) 0 z19.2) (fun (z20 : jH) =>
  (Option.bind (fFo_add o (-22) z20) (fun (z21 : jH) =>
  some z21))))))))
theorem kFo_readFact_g {g : jGr} {X : jX} {dd : Nat} {p d : Nat} {q : Nat → Nat} {Q : Option Value → jS → Prop} {o : Nat} {v2 : Int32} {h : jH} (Hg : jGk X p d q g dd) (hP : jOK p d q) (ho : jcl 176 o = 5) (hd : 12 ≤ (dd + 1)) {z : jH} (K : fFo_readFact_g g o v2 h = some z) (HQ : Q none (176, jRf p d q, z)) :
    jCa X (dd + 1) 172 [.ref o, .ref 6, .int v2] (176, jRf p d q, h) Q := by
  unfold fFo_readFact_g at K
  refine jCa_of (es := jc_172) (pl := [some (.ref o), some (.ref 6), some (.int v2), none]) (M := jm_172) rfl rfl rfl rfl ?_
  refine jx_next (pc := 0) (pc' := 1) rfl rfl ?_
  refine jx_next (pc := 1) (pc' := 4) rfl rfl ?_
  refine jx_callv (pc := 4) (o := 6) (rest := []) rfl ⟨by decide, by decide⟩ rfl jko_6 (Nat.le_of_ble_eq_true rfl) ?_
  refine kRd_standsWord hP (by decide) (by omega) rfl ?_
  refine jx_ifeq (pc := 7) rfl (fun hc2 => ?_) (fun hc2 => ?_)
  · replace K := (if_pos hc2).symm.trans K
    refine jx_next (pc := 43) (pc' := 44) rfl rfl ?_
    refine jx_next (pc := 44) (pc' := 46) rfl rfl ?_
    refine jx_callv (pc := 46) (o := 6) (rest := []) rfl ⟨by decide, by decide⟩ rfl jko_6 (Nat.le_of_ble_eq_true rfl) ?_
    refine kRd_standsSign hP (by omega) rfl ?_
    refine jx_ifeq (pc := 49) rfl (fun hc4 => ?_) (fun hc4 => ?_)
    · replace K := (if_pos hc4).symm.trans K
      refine jx_next (pc := 84) (pc' := 85) rfl rfl ?_
      refine jx_next (pc := 85) (pc' := 88) rfl rfl ?_
      refine jx_callv (pc := 88) (o := 6) (rest := []) rfl ⟨by decide, by decide⟩ rfl jko_6 (Nat.le_of_ble_eq_true rfl) ?_
      obtain ⟨z5, hz_z5, K⟩ := Option.bind_eq_some_iff.mp K
      refine kRd_takesWord hP (by decide) (by omega) hz_z5 ?_
      refine jx_ifeq (pc := 91) rfl (fun hc6 => ?_) (fun hc6 => ?_)
      · replace K := (if_pos hc6).symm.trans K
        refine jx_next (pc := 102) (pc' := 103) rfl rfl ?_
        refine jx_next (pc := 103) (pc' := 104) rfl rfl ?_
        refine jx_next (pc := 104) (pc' := 105) rfl rfl ?_
        refine jx_callv (pc := 105) (o := o) (rest := []) rfl ⟨by decide, by decide⟩ rfl ho (Nat.le_of_ble_eq_true rfl) ?_
        obtain ⟨z7, hz_z7, K⟩ := Option.bind_eq_some_iff.mp K
        refine (Hg.2.2.2.1) ho hz_z7 ?_
        refine jx_next (pc := 108) (pc' := 109) rfl rfl ?_
        refine jx_calls (pc := 109) rfl (Nat.le_of_ble_eq_true rfl) (Nat.le_of_ble_eq_true rfl) ?_
        obtain ⟨z8, hz_z8, K⟩ := Option.bind_eq_some_iff.mp K
        refine kFo_readSign hP (by omega) hz_z8 ?_
        refine jx_stin (pc := 112) (p2 := [some (.ref o), some (.ref 6), some (.int v2), some (.int z8.1)]) rfl (jlt rfl) rfl ?_
        refine jx_next (pc := 113) (pc' := 114) rfl rfl ?_
        refine jx_next (pc := 114) (pc' := 115) rfl rfl ?_
        refine jx_next (pc := 115) (pc' := 116) rfl rfl ?_
        refine jx_callv (pc := 116) (o := o) (rest := []) rfl ⟨by decide, by decide⟩ rfl ho (Nat.le_of_ble_eq_true rfl) ?_
        obtain ⟨z9, hz_z9, K⟩ := Option.bind_eq_some_iff.mp K
        refine (Hg.2.2.2.1) ho hz_z9 ?_
        refine jx_next (pc := 119) (pc' := 120) rfl rfl ?_
        refine jx_next (pc := 120) (pc' := 121) rfl rfl ?_
        refine jx_callv (pc := 121) (o := o) (rest := []) rfl ⟨by decide, by decide⟩ rfl ho (Nat.le_of_ble_eq_true rfl) ?_
        obtain ⟨z10, hz_z10, K⟩ := Option.bind_eq_some_iff.mp K
        refine kFo_add hP ho (by omega) hz_z10 ?_
        obtain rfl := Option.some.inj K
        exact jx_ret (pc := 124) rfl rfl HQ
      · replace K := (if_neg hc6).symm.trans K
        refine jx_next (pc := 94) (pc' := 95) rfl rfl ?_
        refine jx_next (pc := 95) (pc' := 96) rfl rfl ?_
        refine jx_callv (pc := 96) (o := o) (rest := []) rfl ⟨by decide, by decide⟩ rfl ho (Nat.le_of_ble_eq_true rfl) ?_
        obtain ⟨z11, hz_z11, K⟩ := Option.bind_eq_some_iff.mp K
        refine kFo_add hP ho (by omega) hz_z11 ?_
        refine jx_next (pc := 99) (pc' := 124) rfl rfl ?_
        obtain rfl := Option.some.inj K
        exact jx_ret (pc := 124) rfl rfl HQ
    · replace K := (if_neg hc4).symm.trans K
      refine jx_next (pc := 52) (pc' := 53) rfl rfl ?_
      refine jx_next (pc := 53) (pc' := 54) rfl rfl ?_
      refine jx_calls (pc := 54) rfl (Nat.le_of_ble_eq_true rfl) (Nat.le_of_ble_eq_true rfl) ?_
      refine kFo_opens hP (by omega) rfl ?_
      refine jx_ifeq (pc := 57) rfl (fun hc13 => ?_) (fun hc13 => ?_)
      · replace K := (if_pos hc13).symm.trans K
        obtain rfl := Option.some.inj K
        exact jx_ret (pc := 124) rfl rfl HQ
      · replace K := (if_neg hc13).symm.trans K
        refine jx_next (pc := 60) (pc' := 61) rfl rfl ?_
        refine jx_next (pc := 61) (pc' := 63) rfl rfl ?_
        refine jx_callv (pc := 63) (o := 6) (rest := []) rfl ⟨by decide, by decide⟩ rfl jko_6 (Nat.le_of_ble_eq_true rfl) ?_
        obtain ⟨z14, hz_z14, K⟩ := Option.bind_eq_some_iff.mp K
        refine kRd_takesSign hP (by omega) hz_z14 ?_
        refine jx_next (pc := 66) (pc' := 67) rfl rfl ?_
        refine jx_next (pc := 67) (pc' := 68) rfl rfl ?_
        refine jx_next (pc := 68) (pc' := 69) rfl rfl ?_
        refine jx_next (pc := 69) (pc' := 70) rfl rfl ?_
        refine jx_next (pc := 70) (pc' := 71) rfl rfl ?_
        refine jx_next (pc := 71) (pc' := 72) rfl rfl ?_
        refine jx_callv (pc := 72) (o := o) (rest := []) rfl ⟨by decide, by decide⟩ rfl ho (Nat.le_of_ble_eq_true rfl) ?_
        obtain ⟨z15, hz_z15, K⟩ := Option.bind_eq_some_iff.mp K
        refine (Hg.1) ho hz_z15 ?_
        refine jx_next (pc := 75) (pc' := 76) rfl rfl ?_
        refine jx_next (pc := 76) (pc' := 78) rfl rfl ?_
        refine jx_callv (pc := 78) (o := 6) (rest := []) rfl ⟨by decide, by decide⟩ rfl jko_6 (Nat.le_of_ble_eq_true rfl) ?_
        obtain ⟨z16, hz_z16, K⟩ := Option.bind_eq_some_iff.mp K
        refine kRd_wantsSign hP (by omega) hz_z16 ?_
        refine jx_next (pc := 81) (pc' := 124) rfl rfl ?_
        obtain rfl := Option.some.inj K
        exact jx_ret (pc := 124) rfl rfl HQ
  · replace K := (if_neg hc2).symm.trans K
    refine jx_next (pc := 10) (pc' := 11) rfl rfl ?_
    refine jx_next (pc := 11) (pc' := 12) rfl rfl ?_
    refine jx_calls (pc := 12) rfl (Nat.le_of_ble_eq_true rfl) (Nat.le_of_ble_eq_true rfl) ?_
    refine kFo_opens hP (by omega) rfl ?_
    refine jx_ifeq (pc := 15) rfl (fun hc18 => ?_) (fun hc18 => ?_)
    · replace K := (if_pos hc18).symm.trans K
      obtain rfl := Option.some.inj K
      exact jx_ret (pc := 124) rfl rfl HQ
    · replace K := (if_neg hc18).symm.trans K
      refine jx_next (pc := 18) (pc' := 19) rfl rfl ?_
      refine jx_next (pc := 19) (pc' := 22) rfl rfl ?_
      refine jx_callv (pc := 22) (o := 6) (rest := []) rfl ⟨by decide, by decide⟩ rfl jko_6 (Nat.le_of_ble_eq_true rfl) ?_
      obtain ⟨z19, hz_z19, K⟩ := Option.bind_eq_some_iff.mp K
      refine kRd_takesWord hP (by decide) (by omega) hz_z19 ?_
      refine jx_next (pc := 25) (pc' := 26) rfl rfl ?_
      refine jx_next (pc := 26) (pc' := 27) rfl rfl ?_
      refine jx_next (pc := 27) (pc' := 28) rfl rfl ?_
      refine jx_next (pc := 28) (pc' := 29) rfl rfl ?_
      refine jx_next (pc := 29) (pc' := 30) rfl rfl ?_
      refine jx_next (pc := 30) (pc' := 31) rfl rfl ?_
      refine jx_callv (pc := 31) (o := o) (rest := []) rfl ⟨by decide, by decide⟩ rfl ho (Nat.le_of_ble_eq_true rfl) ?_
      obtain ⟨z20, hz_z20, K⟩ := Option.bind_eq_some_iff.mp K
      refine (Hg.2.2.1) ho hz_z20 ?_
      refine jx_next (pc := 34) (pc' := 35) rfl rfl ?_
      refine jx_next (pc := 35) (pc' := 37) rfl rfl ?_
      refine jx_callv (pc := 37) (o := o) (rest := []) rfl ⟨by decide, by decide⟩ rfl ho (Nat.le_of_ble_eq_true rfl) ?_
      obtain ⟨z21, hz_z21, K⟩ := Option.bind_eq_some_iff.mp K
      refine kFo_add hP ho (by omega) hz_z21 ?_
      refine jx_next (pc := 40) (pc' := 124) rfl rfl ?_
      obtain rfl := Option.some.inj K
      exact jx_ret (pc := 124) rfl rfl HQ
noncomputable def fFo_readSum_g_l16_j72 (g : jGr) (o : Nat) (v2 : Int32) (v3 : Int32) (h : jH) : Option ((Int32 × jH) ⊕ ((jH) ⊕ (jH))) :=
  some (.inl (v3 + 1, h))
theorem kFo_readSum_g_l16_j72 {g : jGr} {X : jX} {dd : Nat} {p d : Nat} {q : Nat → Nat} {Q : Option Value → jS → Prop} {o : Nat} {v2 : Int32} {v3 : Int32} {h : jH} (Hg : jGk X p d q g dd) (hP : jOK p d q) (ho : jcl 176 o = 5) (hd : 12 ≤ (dd + 1)) {z : (Int32 × jH) ⊕ ((jH) ⊕ (jH))} (K : fFo_readSum_g_l16_j72 g o v2 v3 h = some z) (HL : ∀ s : Int32 × jH, z = .inl s → jEx X (dd + 1) jc_53 16 [some (.ref o), some (.ref 6), some (.int v2), some (.int s.1)] [] (176, jRf p d q, s.2) Q) (HE0 : ∀ x : jH, z = .inr (.inl x) → jEx X (dd + 1) jc_53 71 [none, none, none, none] [] (176, jRf p d q, x) Q) (HE1 : ∀ x : jH, z = .inr (.inr x) → jEx X (dd + 1) jc_53 78 [none, none, none, none] [] (176, jRf p d q, x) Q) :
    jEx X (dd + 1) jc_53 72 [some (.ref o), some (.ref 6), some (.int v2), some (.int v3)] [] (176, jRf p d q, h) Q := by
  unfold fFo_readSum_g_l16_j72 at K
  refine jx_inc (pc := 72) (x := v3) (p2 := [some (.ref o), some (.ref 6), some (.int v2), some (.int (v3 + 1))]) rfl rfl (jlt rfl) rfl ?_
  refine jx_next (pc := 75) (pc' := 16) rfl rfl ?_
  obtain rfl := Option.some.inj K
  refine jx_le (pl' := [some (.ref o), some (.ref 6), some (.int v2), some (.int (v3 + 1))]) (jle_v (jle_v (jle_v (jle_v jle_nil)))) ?_
  exact HL (v3 + 1, h) rfl
noncomputable def fFo_readSum_g_l16_b (g : jGr) (o : Nat) (v2 : Int32) (v3 : Int32) (h : jH) : Option ((Int32 × jH) ⊕ ((jH) ⊕ (jH))) :=
  (if v3 < 1600 then
  (Option.bind (fRd_takesSign 43 h) (fun (z5 : Int32 × jH) =>
  (if z5.1 = 0 then
  (Option.bind (fRd_takesSign 45 z5.2) (fun (z7 : Int32 × jH) =>
  (if z7.1 = 0 then
  some (.inr (.inl z7.2))
  else
  (Option.bind (g 4 o v2 0 z7.2) (fun (z9 : jH) =>
  (Option.bind (fFo_add o (-12) z9) (fun (z10 : jH) =>
  fFo_readSum_g_l16_j72 g o v2 v3 z10)))))))
  else
  (Option.bind (g 4 o v2 0 z5.2) (fun (z11 : jH) =>
  (Option.bind (fFo_add o (-11) z11) (fun (z12 : jH) =>
  fFo_readSum_g_l16_j72 g o v2 v3 z12)))))))
  else
  some (.inr (.inr h)))
noncomputable def fFo_readSum_g_l16 (g : jGr) (o : Nat) (v2 : Int32) : (Int32 × jH) → Option ((Int32 × jH) ⊕ ((jH) ⊕ (jH))) :=
  fun (s : Int32 × jH) => fFo_readSum_g_l16_b g o v2 s.1 s.2
theorem kFo_readSum_g_l16_b {g : jGr} {X : jX} {dd : Nat} {p d : Nat} {q : Nat → Nat} {Q : Option Value → jS → Prop} {o : Nat} {v2 : Int32} {v3 : Int32} {h : jH} (Hg : jGk X p d q g dd) (hP : jOK p d q) (ho : jcl 176 o = 5) (hd : 12 ≤ (dd + 1)) {z : (Int32 × jH) ⊕ ((jH) ⊕ (jH))} (K : fFo_readSum_g_l16_b g o v2 v3 h = some z) (HL : ∀ s : Int32 × jH, z = .inl s → jEx X (dd + 1) jc_53 16 [some (.ref o), some (.ref 6), some (.int v2), some (.int s.1)] [] (176, jRf p d q, s.2) Q) (HE0 : ∀ x : jH, z = .inr (.inl x) → jEx X (dd + 1) jc_53 71 [none, none, none, none] [] (176, jRf p d q, x) Q) (HE1 : ∀ x : jH, z = .inr (.inr x) → jEx X (dd + 1) jc_53 78 [none, none, none, none] [] (176, jRf p d q, x) Q) :
    jEx X (dd + 1) jc_53 16 [some (.ref o), some (.ref 6), some (.int v2), some (.int v3)] [] (176, jRf p d q, h) Q := by
  unfold fFo_readSum_g_l16_b at K
  refine jx_next (pc := 16) (pc' := 17) rfl rfl ?_
  refine jx_next (pc := 17) (pc' := 20) rfl rfl ?_
  refine jx_icge (pc := 20) rfl (fun hc4 => ?_) (fun hc4 => ?_)
  · replace K := (if_pos hc4).symm.trans K
    refine jx_next (pc := 23) (pc' := 24) rfl rfl ?_
    refine jx_next (pc := 24) (pc' := 26) rfl rfl ?_
    refine jx_callv (pc := 26) (o := 6) (rest := []) rfl ⟨by decide, by decide⟩ rfl jko_6 (Nat.le_of_ble_eq_true rfl) ?_
    obtain ⟨z5, hz_z5, K⟩ := Option.bind_eq_some_iff.mp K
    refine kRd_takesSign hP (by omega) hz_z5 ?_
    refine jx_ifeq (pc := 29) rfl (fun hc6 => ?_) (fun hc6 => ?_)
    · replace K := (if_pos hc6).symm.trans K
      refine jx_next (pc := 47) (pc' := 48) rfl rfl ?_
      refine jx_next (pc := 48) (pc' := 50) rfl rfl ?_
      refine jx_callv (pc := 50) (o := 6) (rest := []) rfl ⟨by decide, by decide⟩ rfl jko_6 (Nat.le_of_ble_eq_true rfl) ?_
      obtain ⟨z7, hz_z7, K⟩ := Option.bind_eq_some_iff.mp K
      refine kRd_takesSign hP (by omega) hz_z7 ?_
      refine jx_ifeq (pc := 53) rfl (fun hc8 => ?_) (fun hc8 => ?_)
      · replace K := (if_pos hc8).symm.trans K
        obtain rfl := Option.some.inj K
        refine jx_le (pl' := [none, none, none, none]) (jle_n (jle_n (jle_n (jle_n jle_nil)))) ?_
        exact HE0 _ rfl
      · replace K := (if_neg hc8).symm.trans K
        refine jx_next (pc := 56) (pc' := 57) rfl rfl ?_
        refine jx_next (pc := 57) (pc' := 58) rfl rfl ?_
        refine jx_next (pc := 58) (pc' := 59) rfl rfl ?_
        refine jx_callv (pc := 59) (o := o) (rest := []) rfl ⟨by decide, by decide⟩ rfl ho (Nat.le_of_ble_eq_true rfl) ?_
        obtain ⟨z9, hz_z9, K⟩ := Option.bind_eq_some_iff.mp K
        refine (Hg.2.2.2.2.1) ho hz_z9 ?_
        refine jx_next (pc := 62) (pc' := 63) rfl rfl ?_
        refine jx_next (pc := 63) (pc' := 65) rfl rfl ?_
        refine jx_callv (pc := 65) (o := o) (rest := []) rfl ⟨by decide, by decide⟩ rfl ho (Nat.le_of_ble_eq_true rfl) ?_
        obtain ⟨z10, hz_z10, K⟩ := Option.bind_eq_some_iff.mp K
        refine kFo_add hP ho (by omega) hz_z10 ?_
        refine jx_next (pc := 68) (pc' := 72) rfl rfl ?_
        refine jx_le (pl' := [some (.ref o), some (.ref 6), some (.int v2), some (.int v3)]) (jle_v (jle_v (jle_v (jle_v jle_nil)))) ?_
        exact kFo_readSum_g_l16_j72 Hg hP ho hd K HL HE0 HE1
    · replace K := (if_neg hc6).symm.trans K
      refine jx_next (pc := 32) (pc' := 33) rfl rfl ?_
      refine jx_next (pc := 33) (pc' := 34) rfl rfl ?_
      refine jx_next (pc := 34) (pc' := 35) rfl rfl ?_
      refine jx_callv (pc := 35) (o := o) (rest := []) rfl ⟨by decide, by decide⟩ rfl ho (Nat.le_of_ble_eq_true rfl) ?_
      obtain ⟨z11, hz_z11, K⟩ := Option.bind_eq_some_iff.mp K
      refine (Hg.2.2.2.2.1) ho hz_z11 ?_
      refine jx_next (pc := 38) (pc' := 39) rfl rfl ?_
      refine jx_next (pc := 39) (pc' := 41) rfl rfl ?_
      refine jx_callv (pc := 41) (o := o) (rest := []) rfl ⟨by decide, by decide⟩ rfl ho (Nat.le_of_ble_eq_true rfl) ?_
      obtain ⟨z12, hz_z12, K⟩ := Option.bind_eq_some_iff.mp K
      refine kFo_add hP ho (by omega) hz_z12 ?_
      refine jx_next (pc := 44) (pc' := 72) rfl rfl ?_
      refine jx_le (pl' := [some (.ref o), some (.ref 6), some (.int v2), some (.int v3)]) (jle_v (jle_v (jle_v (jle_v jle_nil)))) ?_
      exact kFo_readSum_g_l16_j72 Hg hP ho hd K HL HE0 HE1
  · replace K := (if_neg hc4).symm.trans K
    obtain rfl := Option.some.inj K
    refine jx_le (pl' := [none, none, none, none]) (jle_n (jle_n (jle_n (jle_n jle_nil)))) ?_
    exact HE1 _ rfl
theorem kFo_readSum_g_l16_w {g : jGr} {X : jX} {dd : Nat} {p d : Nat} {q : Nat → Nat} {Q : Option Value → jS → Prop} {o : Nat} {v2 : Int32} (Hg : jGk X p d q g dd) (hP : jOK p d q) (ho : jcl 176 o = 5) (hd : 12 ≤ (dd + 1)) {s : Int32 × jH} {x : (jH) ⊕ (jH)} (K : jlim (fFo_readSum_g_l16 g o v2) s = some x) (HE0 : ∀ x0 : jH, x = .inl x0 → jEx X (dd + 1) jc_53 71 [none, none, none, none] [] (176, jRf p d q, x0) Q) (HE1 : ∀ x0 : jH, x = .inr x0 → jEx X (dd + 1) jc_53 78 [none, none, none, none] [] (176, jRf p d q, x0) Q) :
    jEx X (dd + 1) jc_53 16 [some (.ref o), some (.ref 6), some (.int v2), some (.int s.1)] [] (176, jRf p d q, s.2) Q := by
  refine jlim_ok (G := fun s : Int32 × jH => jEx X (dd + 1) jc_53 16 [some (.ref o), some (.ref 6), some (.int v2), some (.int s.1)] [] (176, jRf p d q, s.2) Q) (GX := fun x : (jH) ⊕ (jH) => (∀ x0 : jH, x = .inl x0 → jEx X (dd + 1) jc_53 71 [none, none, none, none] [] (176, jRf p d q, x0) Q) ∧ (∀ x0 : jH, x = .inr x0 → jEx X (dd + 1) jc_53 78 [none, none, none, none] [] (176, jRf p d q, x0) Q)) (fun s z hz HL HE => ?_) K ⟨HE0, HE1⟩
  exact kFo_readSum_g_l16_b Hg hP ho hd hz HL (fun x hx => (HE _ hx).1 x rfl) (fun x hx => (HE _ hx).2 x rfl)
/-- AndGuest$Formula.readSum(LAndGuest$Reader;I)V -/
noncomputable def fFo_readSum_g (g : jGr) (o : Nat) (v2 : Int32) (h : jH) : Option jH :=
  (if (fRd_failed h) = 0 then
  (Option.bind (g 4 o v2 0 h) (fun (z3 : jH) =>
  (Option.bind (jlim (fFo_readSum_g_l16 g o v2) (0, z3)) (fun (x13 : (jH) ⊕ (jH)) => Sum.elim (fun (y13 : jH) =>
  some y13) (fun (y13 : jH) =>
  some y13) x13))))
  else
  some h)
theorem kFo_readSum_g {g : jGr} {X : jX} {dd : Nat} {p d : Nat} {q : Nat → Nat} {Q : Option Value → jS → Prop} {o : Nat} {v2 : Int32} {h : jH} (Hg : jGk X p d q g dd) (hP : jOK p d q) (ho : jcl 176 o = 5) (hd : 12 ≤ (dd + 1)) {z : jH} (K : fFo_readSum_g g o v2 h = some z) (HQ : Q none (176, jRf p d q, z)) :
    jCa X (dd + 1) 53 [.ref o, .ref 6, .int v2] (176, jRf p d q, h) Q := by
  unfold fFo_readSum_g at K
  refine jCa_of (es := jc_53) (pl := [some (.ref o), some (.ref 6), some (.int v2), none]) (M := jm_53) rfl rfl rfl rfl ?_
  refine jx_next (pc := 0) (pc' := 1) rfl rfl ?_
  refine jx_callv (pc := 1) (o := 6) (rest := []) rfl ⟨by decide, by decide⟩ rfl jko_6 (Nat.le_of_ble_eq_true rfl) ?_
  refine kRd_failed hP (by omega) rfl ?_
  refine jx_ifeq (pc := 4) rfl (fun hc2 => ?_) (fun hc2 => ?_)
  · replace K := (if_pos hc2).symm.trans K
    refine jx_next (pc := 8) (pc' := 9) rfl rfl ?_
    refine jx_next (pc := 9) (pc' := 10) rfl rfl ?_
    refine jx_next (pc := 10) (pc' := 11) rfl rfl ?_
    refine jx_callv (pc := 11) (o := o) (rest := []) rfl ⟨by decide, by decide⟩ rfl ho (Nat.le_of_ble_eq_true rfl) ?_
    obtain ⟨z3, hz_z3, K⟩ := Option.bind_eq_some_iff.mp K
    refine (Hg.2.2.2.2.1) ho hz_z3 ?_
    refine jx_next (pc := 14) (pc' := 15) rfl rfl ?_
    refine jx_stin (pc := 15) (p2 := [some (.ref o), some (.ref 6), some (.int v2), some (.int 0)]) rfl (jlt rfl) rfl ?_
    refine jx_le (pl' := [some (.ref o), some (.ref 6), some (.int v2), some (.int 0)]) (jle_v (jle_v (jle_v (jle_v jle_nil)))) ?_
    obtain ⟨x13, hz_x13, K⟩ := Option.bind_eq_some_iff.mp K
    refine kFo_readSum_g_l16_w Hg hP ho hd hz_x13 (fun y13 hx9 => ?_) (fun y13 hx9 => ?_)
    · subst hx9
      obtain rfl := Option.some.inj K
      exact jx_ret (pc := 71) rfl rfl HQ
    · subst hx9
      obtain rfl := Option.some.inj K
      exact jx_ret (pc := 78) rfl rfl HQ
  · replace K := (if_neg hc2).symm.trans K
    obtain rfl := Option.some.inj K
    exact jx_ret (pc := 7) rfl rfl HQ
noncomputable def fFo_readProduct_g_l8_j64 (g : jGr) (o : Nat) (v2 : Int32) (v3 : Int32) (h : jH) : Option ((Int32 × jH) ⊕ ((jH) ⊕ (jH))) :=
  some (.inl (v3 + 1, h))
theorem kFo_readProduct_g_l8_j64 {g : jGr} {X : jX} {dd : Nat} {p d : Nat} {q : Nat → Nat} {Q : Option Value → jS → Prop} {o : Nat} {v2 : Int32} {v3 : Int32} {h : jH} (Hg : jGk X p d q g dd) (hP : jOK p d q) (ho : jcl 176 o = 5) (hd : 12 ≤ (dd + 1)) {z : (Int32 × jH) ⊕ ((jH) ⊕ (jH))} (K : fFo_readProduct_g_l8_j64 g o v2 v3 h = some z) (HL : ∀ s : Int32 × jH, z = .inl s → jEx X (dd + 1) jc_55 8 [some (.ref o), some (.ref 6), some (.int v2), some (.int s.1)] [] (176, jRf p d q, s.2) Q) (HE0 : ∀ x : jH, z = .inr (.inl x) → jEx X (dd + 1) jc_55 63 [none, none, none, none] [] (176, jRf p d q, x) Q) (HE1 : ∀ x : jH, z = .inr (.inr x) → jEx X (dd + 1) jc_55 70 [none, none, none, none] [] (176, jRf p d q, x) Q) :
    jEx X (dd + 1) jc_55 64 [some (.ref o), some (.ref 6), some (.int v2), some (.int v3)] [] (176, jRf p d q, h) Q := by
  unfold fFo_readProduct_g_l8_j64 at K
  refine jx_inc (pc := 64) (x := v3) (p2 := [some (.ref o), some (.ref 6), some (.int v2), some (.int (v3 + 1))]) rfl rfl (jlt rfl) rfl ?_
  refine jx_next (pc := 67) (pc' := 8) rfl rfl ?_
  obtain rfl := Option.some.inj K
  refine jx_le (pl' := [some (.ref o), some (.ref 6), some (.int v2), some (.int (v3 + 1))]) (jle_v (jle_v (jle_v (jle_v jle_nil)))) ?_
  exact HL (v3 + 1, h) rfl
noncomputable def fFo_readProduct_g_l8_b (g : jGr) (o : Nat) (v2 : Int32) (v3 : Int32) (h : jH) : Option ((Int32 × jH) ⊕ ((jH) ⊕ (jH))) :=
  (if v3 < 1600 then
  (Option.bind (fRd_takesSign 42 h) (fun (z3 : Int32 × jH) =>
  (if z3.1 = 0 then
  (Option.bind (fRd_takesSign 47 z3.2) (fun (z5 : Int32 × jH) =>
  (if z5.1 = 0 then
  some (.inr (.inl z5.2))
  else
  (Option.bind (g 5 o v2 0 z5.2) (fun (z7 : jH) =>
  (Option.bind (fFo_add o (-14) z7) (fun (z8 : jH) =>
  fFo_readProduct_g_l8_j64 g o v2 v3 z8)))))))
  else
  (Option.bind (g 5 o v2 0 z3.2) (fun (z9 : jH) =>
  (Option.bind (fFo_add o (-13) z9) (fun (z10 : jH) =>
  fFo_readProduct_g_l8_j64 g o v2 v3 z10)))))))
  else
  some (.inr (.inr h)))
noncomputable def fFo_readProduct_g_l8 (g : jGr) (o : Nat) (v2 : Int32) : (Int32 × jH) → Option ((Int32 × jH) ⊕ ((jH) ⊕ (jH))) :=
  fun (s : Int32 × jH) => fFo_readProduct_g_l8_b g o v2 s.1 s.2
theorem kFo_readProduct_g_l8_b {g : jGr} {X : jX} {dd : Nat} {p d : Nat} {q : Nat → Nat} {Q : Option Value → jS → Prop} {o : Nat} {v2 : Int32} {v3 : Int32} {h : jH} (Hg : jGk X p d q g dd) (hP : jOK p d q) (ho : jcl 176 o = 5) (hd : 12 ≤ (dd + 1)) {z : (Int32 × jH) ⊕ ((jH) ⊕ (jH))} (K : fFo_readProduct_g_l8_b g o v2 v3 h = some z) (HL : ∀ s : Int32 × jH, z = .inl s → jEx X (dd + 1) jc_55 8 [some (.ref o), some (.ref 6), some (.int v2), some (.int s.1)] [] (176, jRf p d q, s.2) Q) (HE0 : ∀ x : jH, z = .inr (.inl x) → jEx X (dd + 1) jc_55 63 [none, none, none, none] [] (176, jRf p d q, x) Q) (HE1 : ∀ x : jH, z = .inr (.inr x) → jEx X (dd + 1) jc_55 70 [none, none, none, none] [] (176, jRf p d q, x) Q) :
    jEx X (dd + 1) jc_55 8 [some (.ref o), some (.ref 6), some (.int v2), some (.int v3)] [] (176, jRf p d q, h) Q := by
  unfold fFo_readProduct_g_l8_b at K
  refine jx_next (pc := 8) (pc' := 9) rfl rfl ?_
  refine jx_next (pc := 9) (pc' := 12) rfl rfl ?_
  refine jx_icge (pc := 12) rfl (fun hc2 => ?_) (fun hc2 => ?_)
  · replace K := (if_pos hc2).symm.trans K
    refine jx_next (pc := 15) (pc' := 16) rfl rfl ?_
    refine jx_next (pc := 16) (pc' := 18) rfl rfl ?_
    refine jx_callv (pc := 18) (o := 6) (rest := []) rfl ⟨by decide, by decide⟩ rfl jko_6 (Nat.le_of_ble_eq_true rfl) ?_
    obtain ⟨z3, hz_z3, K⟩ := Option.bind_eq_some_iff.mp K
    refine kRd_takesSign hP (by omega) hz_z3 ?_
    refine jx_ifeq (pc := 21) rfl (fun hc4 => ?_) (fun hc4 => ?_)
    · replace K := (if_pos hc4).symm.trans K
      refine jx_next (pc := 39) (pc' := 40) rfl rfl ?_
      refine jx_next (pc := 40) (pc' := 42) rfl rfl ?_
      refine jx_callv (pc := 42) (o := 6) (rest := []) rfl ⟨by decide, by decide⟩ rfl jko_6 (Nat.le_of_ble_eq_true rfl) ?_
      obtain ⟨z5, hz_z5, K⟩ := Option.bind_eq_some_iff.mp K
      refine kRd_takesSign hP (by omega) hz_z5 ?_
      refine jx_ifeq (pc := 45) rfl (fun hc6 => ?_) (fun hc6 => ?_)
      · replace K := (if_pos hc6).symm.trans K
        obtain rfl := Option.some.inj K
        refine jx_le (pl' := [none, none, none, none]) (jle_n (jle_n (jle_n (jle_n jle_nil)))) ?_
        exact HE0 _ rfl
      · replace K := (if_neg hc6).symm.trans K
        refine jx_next (pc := 48) (pc' := 49) rfl rfl ?_
        refine jx_next (pc := 49) (pc' := 50) rfl rfl ?_
        refine jx_next (pc := 50) (pc' := 51) rfl rfl ?_
        refine jx_callv (pc := 51) (o := o) (rest := []) rfl ⟨by decide, by decide⟩ rfl ho (Nat.le_of_ble_eq_true rfl) ?_
        obtain ⟨z7, hz_z7, K⟩ := Option.bind_eq_some_iff.mp K
        refine (Hg.2.2.2.2.2.1) ho hz_z7 ?_
        refine jx_next (pc := 54) (pc' := 55) rfl rfl ?_
        refine jx_next (pc := 55) (pc' := 57) rfl rfl ?_
        refine jx_callv (pc := 57) (o := o) (rest := []) rfl ⟨by decide, by decide⟩ rfl ho (Nat.le_of_ble_eq_true rfl) ?_
        obtain ⟨z8, hz_z8, K⟩ := Option.bind_eq_some_iff.mp K
        refine kFo_add hP ho (by omega) hz_z8 ?_
        refine jx_next (pc := 60) (pc' := 64) rfl rfl ?_
        refine jx_le (pl' := [some (.ref o), some (.ref 6), some (.int v2), some (.int v3)]) (jle_v (jle_v (jle_v (jle_v jle_nil)))) ?_
        exact kFo_readProduct_g_l8_j64 Hg hP ho hd K HL HE0 HE1
    · replace K := (if_neg hc4).symm.trans K
      refine jx_next (pc := 24) (pc' := 25) rfl rfl ?_
      refine jx_next (pc := 25) (pc' := 26) rfl rfl ?_
      refine jx_next (pc := 26) (pc' := 27) rfl rfl ?_
      refine jx_callv (pc := 27) (o := o) (rest := []) rfl ⟨by decide, by decide⟩ rfl ho (Nat.le_of_ble_eq_true rfl) ?_
      obtain ⟨z9, hz_z9, K⟩ := Option.bind_eq_some_iff.mp K
      refine (Hg.2.2.2.2.2.1) ho hz_z9 ?_
      refine jx_next (pc := 30) (pc' := 31) rfl rfl ?_
      refine jx_next (pc := 31) (pc' := 33) rfl rfl ?_
      refine jx_callv (pc := 33) (o := o) (rest := []) rfl ⟨by decide, by decide⟩ rfl ho (Nat.le_of_ble_eq_true rfl) ?_
      obtain ⟨z10, hz_z10, K⟩ := Option.bind_eq_some_iff.mp K
      refine kFo_add hP ho (by omega) hz_z10 ?_
      refine jx_next (pc := 36) (pc' := 64) rfl rfl ?_
      refine jx_le (pl' := [some (.ref o), some (.ref 6), some (.int v2), some (.int v3)]) (jle_v (jle_v (jle_v (jle_v jle_nil)))) ?_
      exact kFo_readProduct_g_l8_j64 Hg hP ho hd K HL HE0 HE1
  · replace K := (if_neg hc2).symm.trans K
    obtain rfl := Option.some.inj K
    refine jx_le (pl' := [none, none, none, none]) (jle_n (jle_n (jle_n (jle_n jle_nil)))) ?_
    exact HE1 _ rfl
theorem kFo_readProduct_g_l8_w {g : jGr} {X : jX} {dd : Nat} {p d : Nat} {q : Nat → Nat} {Q : Option Value → jS → Prop} {o : Nat} {v2 : Int32} (Hg : jGk X p d q g dd) (hP : jOK p d q) (ho : jcl 176 o = 5) (hd : 12 ≤ (dd + 1)) {s : Int32 × jH} {x : (jH) ⊕ (jH)} (K : jlim (fFo_readProduct_g_l8 g o v2) s = some x) (HE0 : ∀ x0 : jH, x = .inl x0 → jEx X (dd + 1) jc_55 63 [none, none, none, none] [] (176, jRf p d q, x0) Q) (HE1 : ∀ x0 : jH, x = .inr x0 → jEx X (dd + 1) jc_55 70 [none, none, none, none] [] (176, jRf p d q, x0) Q) :
    jEx X (dd + 1) jc_55 8 [some (.ref o), some (.ref 6), some (.int v2), some (.int s.1)] [] (176, jRf p d q, s.2) Q := by
  refine jlim_ok (G := fun s : Int32 × jH => jEx X (dd + 1) jc_55 8 [some (.ref o), some (.ref 6), some (.int v2), some (.int s.1)] [] (176, jRf p d q, s.2) Q) (GX := fun x : (jH) ⊕ (jH) => (∀ x0 : jH, x = .inl x0 → jEx X (dd + 1) jc_55 63 [none, none, none, none] [] (176, jRf p d q, x0) Q) ∧ (∀ x0 : jH, x = .inr x0 → jEx X (dd + 1) jc_55 70 [none, none, none, none] [] (176, jRf p d q, x0) Q)) (fun s z hz HL HE => ?_) K ⟨HE0, HE1⟩
  exact kFo_readProduct_g_l8_b Hg hP ho hd hz HL (fun x hx => (HE _ hx).1 x rfl) (fun x hx => (HE _ hx).2 x rfl)
/-- AndGuest$Formula.readProduct(LAndGuest$Reader;I)V -/
noncomputable def fFo_readProduct_g (g : jGr) (o : Nat) (v2 : Int32) (h : jH) : Option jH :=
  (Option.bind (g 5 o v2 0 h) (fun (z1 : jH) =>
  (Option.bind (jlim (fFo_readProduct_g_l8 g o v2) (0, z1)) (fun (x11 : (jH) ⊕ (jH)) => Sum.elim (fun (y11 : jH) =>
  some y11) (fun (y11 : jH) =>
  some y11) x11))))
theorem kFo_readProduct_g {g : jGr} {X : jX} {dd : Nat} {p d : Nat} {q : Nat → Nat} {Q : Option Value → jS → Prop} {o : Nat} {v2 : Int32} {h : jH} (Hg : jGk X p d q g dd) (hP : jOK p d q) (ho : jcl 176 o = 5) (hd : 12 ≤ (dd + 1)) {z : jH} (K : fFo_readProduct_g g o v2 h = some z) (HQ : Q none (176, jRf p d q, z)) :
    jCa X (dd + 1) 55 [.ref o, .ref 6, .int v2] (176, jRf p d q, h) Q := by
  unfold fFo_readProduct_g at K
  refine jCa_of (es := jc_55) (pl := [some (.ref o), some (.ref 6), some (.int v2), none]) (M := jm_55) rfl rfl rfl rfl ?_
  refine jx_next (pc := 0) (pc' := 1) rfl rfl ?_
  refine jx_next (pc := 1) (pc' := 2) rfl rfl ?_
  refine jx_next (pc := 2) (pc' := 3) rfl rfl ?_
  refine jx_callv (pc := 3) (o := o) (rest := []) rfl ⟨by decide, by decide⟩ rfl ho (Nat.le_of_ble_eq_true rfl) ?_
  obtain ⟨z1, hz_z1, K⟩ := Option.bind_eq_some_iff.mp K
  refine (Hg.2.2.2.2.2.1) ho hz_z1 ?_
  refine jx_next (pc := 6) (pc' := 7) rfl rfl ?_
  refine jx_stin (pc := 7) (p2 := [some (.ref o), some (.ref 6), some (.int v2), some (.int 0)]) rfl (jlt rfl) rfl ?_
  refine jx_le (pl' := [some (.ref o), some (.ref 6), some (.int v2), some (.int 0)]) (jle_v (jle_v (jle_v (jle_v jle_nil)))) ?_
  obtain ⟨x11, hz_x11, K⟩ := Option.bind_eq_some_iff.mp K
  refine kFo_readProduct_g_l8_w Hg hP ho hd hz_x11 (fun y11 hx9 => ?_) (fun y11 hx9 => ?_)
  · subst hx9
    obtain rfl := Option.some.inj K
    exact jx_ret (pc := 63) rfl rfl HQ
  · subst hx9
    obtain rfl := Option.some.inj K
    exact jx_ret (pc := 70) rfl rfl HQ
noncomputable def fFo_readPart_g_j154 (g : jGr) (o : Nat) (h : jH) : Option jH :=
  (if (fFo_factThatStands o h) = (-1) then
  some (fRd_failHere 1 h)
  else
  (Option.bind (fRd_step h) (fun (z13 : jH) =>
  (Option.bind (fFo_add o ((-1) - (fFo_factThatStands o h)) z13) (fun (z14 : jH) =>
  some z14)))))
theorem kFo_readPart_g_j154 {g : jGr} {X : jX} {dd : Nat} {p d : Nat} {q : Nat → Nat} {Q : Option Value → jS → Prop} {o : Nat} {h : jH} (Hg : jGk X p d q g dd) (hP : jOK p d q) (ho : jcl 176 o = 5) (hd : 12 ≤ (dd + 1)) {z : jH} (K : fFo_readPart_g_j154 g o h = some z) (HQ : Q none (176, jRf p d q, z)) :
    jEx X (dd + 1) jc_56 154 [some (.ref o), some (.ref 6), none, none] [] (176, jRf p d q, h) Q := by
  unfold fFo_readPart_g_j154 at K
  refine jx_next (pc := 154) (pc' := 155) rfl rfl ?_
  refine jx_next (pc := 155) (pc' := 156) rfl rfl ?_
  refine jx_callv (pc := 156) (o := o) (rest := []) rfl ⟨by decide, by decide⟩ rfl ho (Nat.le_of_ble_eq_true rfl) ?_
  refine kFo_factThatStands hP ho (by omega) rfl ?_
  refine jx_stin (pc := 159) (p2 := [some (.ref o), some (.ref 6), none, some (.int (fFo_factThatStands o h))]) rfl (jlt rfl) rfl ?_
  refine jx_next (pc := 160) (pc' := 161) rfl rfl ?_
  refine jx_next (pc := 161) (pc' := 162) rfl rfl ?_
  refine jx_icne (pc := 162) rfl (fun hc11 => ?_) (fun hc11 => ?_)
  · replace K := (if_pos hc11).symm.trans K
    refine jx_next (pc := 165) (pc' := 166) rfl rfl ?_
    refine jx_next (pc := 166) (pc' := 167) rfl rfl ?_
    refine jx_callv (pc := 167) (o := 6) (rest := []) rfl ⟨by decide, by decide⟩ rfl jko_6 (Nat.le_of_ble_eq_true rfl) ?_
    refine kRd_failHere hP (by omega) rfl ?_
    refine jx_next (pc := 170) (pc' := 184) rfl rfl ?_
    obtain rfl := Option.some.inj K
    exact jx_ret (pc := 184) rfl rfl HQ
  · replace K := (if_neg hc11).symm.trans K
    refine jx_next (pc := 173) (pc' := 174) rfl rfl ?_
    refine jx_callv (pc := 174) (o := 6) (rest := []) rfl ⟨by decide, by decide⟩ rfl jko_6 (Nat.le_of_ble_eq_true rfl) ?_
    obtain ⟨z13, hz_z13, K⟩ := Option.bind_eq_some_iff.mp K
    refine kRd_step hP (by omega) hz_z13 ?_
    refine jx_next (pc := 177) (pc' := 178) rfl rfl ?_
    refine jx_next (pc := 178) (pc' := 179) rfl rfl ?_
    refine jx_next (pc := 179) (pc' := 180) rfl rfl ?_
    refine jx_next (pc := 180) (pc' := 181) rfl rfl ?_
    refine jx_callv (pc := 181) (o := o) (rest := []) rfl ⟨by decide, by decide⟩ rfl ho (Nat.le_of_ble_eq_true rfl) ?_
    obtain ⟨z14, hz_z14, K⟩ := Option.bind_eq_some_iff.mp K
    refine kFo_add hP ho (by omega) hz_z14 ?_
    obtain rfl := Option.some.inj K
    exact jx_ret (pc := 184) rfl rfl HQ
/-- AndGuest$Formula.readPart(LAndGuest$Reader;I)V -/
noncomputable def fFo_readPart_g (g : jGr) (o : Nat) (v2 : Int32) (h : jH) : Option jH :=
  (if (fRd_standsNumber h) = 0 then
  (if (fRd_standsSign 40 h) = 0 then
  (Option.bind (fRd_takesWord 1023 h) (fun (z5 : Int32 × jH) =>
  (if z5.1 = 0 then
  (Option.bind (fRd_takesWord 1024 z5.2) (fun (z7 : Int32 × jH) =>
  (if z7.1 = 0 then
  (if (z7.2.1 o 3) = 0 then
  fFo_readPart_g_j154 g o z7.2
  else
  (if (fRd_standsWord 1009 z7.2) = 0 then
  fFo_readPart_g_j154 g o z7.2
  else
  (if ((fFo_opens v2 z7.2).1) = 0 then
  some ((fFo_opens v2 z7.2).2)
  else
  (Option.bind (fRd_takesWord 1009 ((fFo_opens v2 z7.2).2)) (fun (z19 : Int32 × jH) =>
  (Option.bind (g 5 o (v2 + 1) 0 z19.2) (fun (z20 : jH) =>
  (Option.bind (fFo_add o (-23) z20) (fun (z21 : jH) =>
  some z21)))))))))
  else
  (Option.bind (g 6 o v2 (-16) z7.2) (fun (z22 : jH) =>
  some z22)))))
  else
  (Option.bind (g 6 o v2 (-15) z5.2) (fun (z23 : jH) =>
  some z23)))))
  else
  (if ((fFo_opens v2 h).1) = 0 then
  some ((fFo_opens v2 h).2)
  else
  (Option.bind (fRd_takesSign 40 ((fFo_opens v2 h).2)) (fun (z26 : Int32 × jH) =>
  (Option.bind (g 3 o (v2 + 1) 0 z26.2) (fun (z27 : jH) =>
  (Option.bind (fRd_wantsSign 41 z27) (fun (z28 : jH) =>
  some z28))))))))
  else
  (Option.bind (fRd_wantsNumber 9999 h) (fun (z29 : Int32 × jH) =>
  (Option.bind (fFo_add o z29.1 z29.2) (fun (z30 : jH) =>
  some z30)))))
theorem kFo_readPart_g {g : jGr} {X : jX} {dd : Nat} {p d : Nat} {q : Nat → Nat} {Q : Option Value → jS → Prop} {o : Nat} {v2 : Int32} {h : jH} (Hg : jGk X p d q g dd) (hP : jOK p d q) (ho : jcl 176 o = 5) (hd : 12 ≤ (dd + 1)) {z : jH} (K : fFo_readPart_g g o v2 h = some z) (HQ : Q none (176, jRf p d q, z)) :
    jCa X (dd + 1) 56 [.ref o, .ref 6, .int v2] (176, jRf p d q, h) Q := by
  unfold fFo_readPart_g at K
  refine jCa_of (es := jc_56) (pl := [some (.ref o), some (.ref 6), some (.int v2), none]) (M := jm_56) rfl rfl rfl rfl ?_
  refine jx_next (pc := 0) (pc' := 1) rfl rfl ?_
  refine jx_callv (pc := 1) (o := 6) (rest := []) rfl ⟨by decide, by decide⟩ rfl jko_6 (Nat.le_of_ble_eq_true rfl) ?_
  refine kRd_standsNumber hP (by omega) rfl ?_
  refine jx_ifeq (pc := 4) rfl (fun hc2 => ?_) (fun hc2 => ?_)
  · replace K := (if_pos hc2).symm.trans K
    refine jx_next (pc := 21) (pc' := 22) rfl rfl ?_
    refine jx_next (pc := 22) (pc' := 24) rfl rfl ?_
    refine jx_callv (pc := 24) (o := 6) (rest := []) rfl ⟨by decide, by decide⟩ rfl jko_6 (Nat.le_of_ble_eq_true rfl) ?_
    refine kRd_standsSign hP (by omega) rfl ?_
    refine jx_ifeq (pc := 27) rfl (fun hc4 => ?_) (fun hc4 => ?_)
    · replace K := (if_pos hc4).symm.trans K
      refine jx_next (pc := 62) (pc' := 63) rfl rfl ?_
      refine jx_next (pc := 63) (pc' := 66) rfl rfl ?_
      refine jx_callv (pc := 66) (o := 6) (rest := []) rfl ⟨by decide, by decide⟩ rfl jko_6 (Nat.le_of_ble_eq_true rfl) ?_
      obtain ⟨z5, hz_z5, K⟩ := Option.bind_eq_some_iff.mp K
      refine kRd_takesWord hP (by decide) (by omega) hz_z5 ?_
      refine jx_ifeq (pc := 69) rfl (fun hc6 => ?_) (fun hc6 => ?_)
      · replace K := (if_pos hc6).symm.trans K
        refine jx_next (pc := 83) (pc' := 84) rfl rfl ?_
        refine jx_next (pc := 84) (pc' := 87) rfl rfl ?_
        refine jx_callv (pc := 87) (o := 6) (rest := []) rfl ⟨by decide, by decide⟩ rfl jko_6 (Nat.le_of_ble_eq_true rfl) ?_
        obtain ⟨z7, hz_z7, K⟩ := Option.bind_eq_some_iff.mp K
        refine kRd_takesWord hP (by decide) (by omega) hz_z7 ?_
        refine jx_ifeq (pc := 90) rfl (fun hc8 => ?_) (fun hc8 => ?_)
        · replace K := (if_pos hc8).symm.trans K
          refine jx_next (pc := 104) (pc' := 105) rfl rfl ?_
          refine jx_getz (pc := 105) rfl ho ?_
          refine jx_ifeq (pc := 108) rfl (fun hc9 => ?_) (fun hc9 => ?_)
          · replace K := (if_pos hc9).symm.trans K
            refine jx_le (pl' := [some (.ref o), some (.ref 6), none, none]) (jle_v (jle_v (jle_n (jle_n jle_nil)))) ?_
            exact kFo_readPart_g_j154 Hg hP ho hd K HQ
          · replace K := (if_neg hc9).symm.trans K
            refine jx_next (pc := 111) (pc' := 112) rfl rfl ?_
            refine jx_next (pc := 112) (pc' := 115) rfl rfl ?_
            refine jx_callv (pc := 115) (o := 6) (rest := []) rfl ⟨by decide, by decide⟩ rfl jko_6 (Nat.le_of_ble_eq_true rfl) ?_
            refine kRd_standsWord hP (by decide) (by omega) rfl ?_
            refine jx_ifeq (pc := 118) rfl (fun hc16 => ?_) (fun hc16 => ?_)
            · replace K := (if_pos hc16).symm.trans K
              refine jx_le (pl' := [some (.ref o), some (.ref 6), none, none]) (jle_v (jle_v (jle_n (jle_n jle_nil)))) ?_
              exact kFo_readPart_g_j154 Hg hP ho hd K HQ
            · replace K := (if_neg hc16).symm.trans K
              refine jx_next (pc := 121) (pc' := 122) rfl rfl ?_
              refine jx_next (pc := 122) (pc' := 123) rfl rfl ?_
              refine jx_calls (pc := 123) rfl (Nat.le_of_ble_eq_true rfl) (Nat.le_of_ble_eq_true rfl) ?_
              refine kFo_opens hP (by omega) rfl ?_
              refine jx_ifeq (pc := 126) rfl (fun hc18 => ?_) (fun hc18 => ?_)
              · replace K := (if_pos hc18).symm.trans K
                obtain rfl := Option.some.inj K
                exact jx_ret (pc := 184) rfl rfl HQ
              · replace K := (if_neg hc18).symm.trans K
                refine jx_next (pc := 129) (pc' := 130) rfl rfl ?_
                refine jx_next (pc := 130) (pc' := 133) rfl rfl ?_
                refine jx_callv (pc := 133) (o := 6) (rest := []) rfl ⟨by decide, by decide⟩ rfl jko_6 (Nat.le_of_ble_eq_true rfl) ?_
                obtain ⟨z19, hz_z19, K⟩ := Option.bind_eq_some_iff.mp K
                refine kRd_takesWord hP (by decide) (by omega) hz_z19 ?_
                refine jx_next (pc := 136) (pc' := 137) rfl rfl ?_
                refine jx_next (pc := 137) (pc' := 138) rfl rfl ?_
                refine jx_next (pc := 138) (pc' := 139) rfl rfl ?_
                refine jx_next (pc := 139) (pc' := 140) rfl rfl ?_
                refine jx_next (pc := 140) (pc' := 141) rfl rfl ?_
                refine jx_next (pc := 141) (pc' := 142) rfl rfl ?_
                refine jx_callv (pc := 142) (o := o) (rest := []) rfl ⟨by decide, by decide⟩ rfl ho (Nat.le_of_ble_eq_true rfl) ?_
                obtain ⟨z20, hz_z20, K⟩ := Option.bind_eq_some_iff.mp K
                refine (Hg.2.2.2.2.2.1) ho hz_z20 ?_
                refine jx_next (pc := 145) (pc' := 146) rfl rfl ?_
                refine jx_next (pc := 146) (pc' := 148) rfl rfl ?_
                refine jx_callv (pc := 148) (o := o) (rest := []) rfl ⟨by decide, by decide⟩ rfl ho (Nat.le_of_ble_eq_true rfl) ?_
                obtain ⟨z21, hz_z21, K⟩ := Option.bind_eq_some_iff.mp K
                refine kFo_add hP ho (by omega) hz_z21 ?_
                refine jx_next (pc := 151) (pc' := 184) rfl rfl ?_
                obtain rfl := Option.some.inj K
                exact jx_ret (pc := 184) rfl rfl HQ
        · replace K := (if_neg hc8).symm.trans K
          refine jx_next (pc := 93) (pc' := 94) rfl rfl ?_
          refine jx_next (pc := 94) (pc' := 95) rfl rfl ?_
          refine jx_next (pc := 95) (pc' := 96) rfl rfl ?_
          refine jx_next (pc := 96) (pc' := 98) rfl rfl ?_
          refine jx_callv (pc := 98) (o := o) (rest := []) rfl ⟨by decide, by decide⟩ rfl ho (Nat.le_of_ble_eq_true rfl) ?_
          obtain ⟨z22, hz_z22, K⟩ := Option.bind_eq_some_iff.mp K
          refine (Hg.2.2.2.2.2.2) ho hz_z22 ?_
          refine jx_next (pc := 101) (pc' := 184) rfl rfl ?_
          obtain rfl := Option.some.inj K
          exact jx_ret (pc := 184) rfl rfl HQ
      · replace K := (if_neg hc6).symm.trans K
        refine jx_next (pc := 72) (pc' := 73) rfl rfl ?_
        refine jx_next (pc := 73) (pc' := 74) rfl rfl ?_
        refine jx_next (pc := 74) (pc' := 75) rfl rfl ?_
        refine jx_next (pc := 75) (pc' := 77) rfl rfl ?_
        refine jx_callv (pc := 77) (o := o) (rest := []) rfl ⟨by decide, by decide⟩ rfl ho (Nat.le_of_ble_eq_true rfl) ?_
        obtain ⟨z23, hz_z23, K⟩ := Option.bind_eq_some_iff.mp K
        refine (Hg.2.2.2.2.2.2) ho hz_z23 ?_
        refine jx_next (pc := 80) (pc' := 184) rfl rfl ?_
        obtain rfl := Option.some.inj K
        exact jx_ret (pc := 184) rfl rfl HQ
    · replace K := (if_neg hc4).symm.trans K
      refine jx_next (pc := 30) (pc' := 31) rfl rfl ?_
      refine jx_next (pc := 31) (pc' := 32) rfl rfl ?_
      refine jx_calls (pc := 32) rfl (Nat.le_of_ble_eq_true rfl) (Nat.le_of_ble_eq_true rfl) ?_
      refine kFo_opens hP (by omega) rfl ?_
      refine jx_ifeq (pc := 35) rfl (fun hc25 => ?_) (fun hc25 => ?_)
      · replace K := (if_pos hc25).symm.trans K
        obtain rfl := Option.some.inj K
        exact jx_ret (pc := 184) rfl rfl HQ
      · replace K := (if_neg hc25).symm.trans K
        refine jx_next (pc := 38) (pc' := 39) rfl rfl ?_
        refine jx_next (pc := 39) (pc' := 41) rfl rfl ?_
        refine jx_callv (pc := 41) (o := 6) (rest := []) rfl ⟨by decide, by decide⟩ rfl jko_6 (Nat.le_of_ble_eq_true rfl) ?_
        obtain ⟨z26, hz_z26, K⟩ := Option.bind_eq_some_iff.mp K
        refine kRd_takesSign hP (by omega) hz_z26 ?_
        refine jx_next (pc := 44) (pc' := 45) rfl rfl ?_
        refine jx_next (pc := 45) (pc' := 46) rfl rfl ?_
        refine jx_next (pc := 46) (pc' := 47) rfl rfl ?_
        refine jx_next (pc := 47) (pc' := 48) rfl rfl ?_
        refine jx_next (pc := 48) (pc' := 49) rfl rfl ?_
        refine jx_next (pc := 49) (pc' := 50) rfl rfl ?_
        refine jx_callv (pc := 50) (o := o) (rest := []) rfl ⟨by decide, by decide⟩ rfl ho (Nat.le_of_ble_eq_true rfl) ?_
        obtain ⟨z27, hz_z27, K⟩ := Option.bind_eq_some_iff.mp K
        refine (Hg.2.2.2.1) ho hz_z27 ?_
        refine jx_next (pc := 53) (pc' := 54) rfl rfl ?_
        refine jx_next (pc := 54) (pc' := 56) rfl rfl ?_
        refine jx_callv (pc := 56) (o := 6) (rest := []) rfl ⟨by decide, by decide⟩ rfl jko_6 (Nat.le_of_ble_eq_true rfl) ?_
        obtain ⟨z28, hz_z28, K⟩ := Option.bind_eq_some_iff.mp K
        refine kRd_wantsSign hP (by omega) hz_z28 ?_
        refine jx_next (pc := 59) (pc' := 184) rfl rfl ?_
        obtain rfl := Option.some.inj K
        exact jx_ret (pc := 184) rfl rfl HQ
  · replace K := (if_neg hc2).symm.trans K
    refine jx_next (pc := 7) (pc' := 8) rfl rfl ?_
    refine jx_next (pc := 8) (pc' := 9) rfl rfl ?_
    refine jx_next (pc := 9) (pc' := 12) rfl rfl ?_
    refine jx_callv (pc := 12) (o := 6) (rest := [.ref o]) rfl ⟨by decide, by decide⟩ rfl jko_6 (Nat.le_of_ble_eq_true rfl) ?_
    obtain ⟨z29, hz_z29, K⟩ := Option.bind_eq_some_iff.mp K
    refine kRd_wantsNumber hP (by omega) hz_z29 ?_
    refine jx_callv (pc := 15) (o := o) (rest := []) rfl ⟨by decide, by decide⟩ rfl ho (Nat.le_of_ble_eq_true rfl) ?_
    obtain ⟨z30, hz_z30, K⟩ := Option.bind_eq_some_iff.mp K
    refine kFo_add hP ho (by omega) hz_z30 ?_
    refine jx_next (pc := 18) (pc' := 184) rfl rfl ?_
    obtain rfl := Option.some.inj K
    exact jx_ret (pc := 184) rfl rfl HQ
/-- AndGuest$Formula.readPair(LAndGuest$Reader;II)V -/
noncomputable def fFo_readPair_g (g : jGr) (o : Nat) (v2 : Int32) (v3 : Int32) (h : jH) : Option jH :=
  (if (fRd_standsSign 40 h) = 0 then
  some (fRd_failHere 1 h)
  else
  (if ((fFo_opens v2 h).1) = 0 then
  some ((fFo_opens v2 h).2)
  else
  (Option.bind (fRd_takesSign 40 ((fFo_opens v2 h).2)) (fun (z6 : Int32 × jH) =>
  (Option.bind (g 3 o (v2 + 1) 0 z6.2) (fun (z7 : jH) =>
  (Option.bind (fRd_wantsSign 44 z7) (fun (z8 : jH) =>
  (Option.bind (g 3 o (v2 + 1) 0 z8) (fun (z9 : jH) =>
  (Option.bind (fRd_wantsSign 41 z9) (fun (z10 : jH) =>
  (Option.bind (fFo_add o v3 z10) (fun (z11 : jH) =>
  some z11))))))))))))))
theorem kFo_readPair_g {g : jGr} {X : jX} {dd : Nat} {p d : Nat} {q : Nat → Nat} {Q : Option Value → jS → Prop} {o : Nat} {v2 : Int32} {v3 : Int32} {h : jH} (Hg : jGk X p d q g dd) (hP : jOK p d q) (ho : jcl 176 o = 5) (hd : 12 ≤ (dd + 1)) {z : jH} (K : fFo_readPair_g g o v2 v3 h = some z) (HQ : Q none (176, jRf p d q, z)) :
    jCa X (dd + 1) 61 [.ref o, .ref 6, .int v2, .int v3] (176, jRf p d q, h) Q := by
  unfold fFo_readPair_g at K
  refine jCa_of (es := jc_61) (pl := [some (.ref o), some (.ref 6), some (.int v2), some (.int v3)]) (M := jm_61) rfl rfl rfl rfl ?_
  refine jx_next (pc := 0) (pc' := 1) rfl rfl ?_
  refine jx_next (pc := 1) (pc' := 3) rfl rfl ?_
  refine jx_callv (pc := 3) (o := 6) (rest := []) rfl ⟨by decide, by decide⟩ rfl jko_6 (Nat.le_of_ble_eq_true rfl) ?_
  refine kRd_standsSign hP (by omega) rfl ?_
  refine jx_ifne (pc := 6) rfl (fun hc2 => ?_) (fun hc2 => ?_)
  · replace K := (if_pos hc2).symm.trans K
    refine jx_next (pc := 9) (pc' := 10) rfl rfl ?_
    refine jx_next (pc := 10) (pc' := 11) rfl rfl ?_
    refine jx_callv (pc := 11) (o := 6) (rest := []) rfl ⟨by decide, by decide⟩ rfl jko_6 (Nat.le_of_ble_eq_true rfl) ?_
    refine kRd_failHere hP (by omega) rfl ?_
    refine jx_next (pc := 14) (pc' := 65) rfl rfl ?_
    obtain rfl := Option.some.inj K
    exact jx_ret (pc := 65) rfl rfl HQ
  · replace K := (if_neg hc2).symm.trans K
    refine jx_next (pc := 17) (pc' := 18) rfl rfl ?_
    refine jx_next (pc := 18) (pc' := 19) rfl rfl ?_
    refine jx_calls (pc := 19) rfl (Nat.le_of_ble_eq_true rfl) (Nat.le_of_ble_eq_true rfl) ?_
    refine kFo_opens hP (by omega) rfl ?_
    refine jx_ifeq (pc := 22) rfl (fun hc5 => ?_) (fun hc5 => ?_)
    · replace K := (if_pos hc5).symm.trans K
      obtain rfl := Option.some.inj K
      exact jx_ret (pc := 65) rfl rfl HQ
    · replace K := (if_neg hc5).symm.trans K
      refine jx_next (pc := 25) (pc' := 26) rfl rfl ?_
      refine jx_next (pc := 26) (pc' := 28) rfl rfl ?_
      refine jx_callv (pc := 28) (o := 6) (rest := []) rfl ⟨by decide, by decide⟩ rfl jko_6 (Nat.le_of_ble_eq_true rfl) ?_
      obtain ⟨z6, hz_z6, K⟩ := Option.bind_eq_some_iff.mp K
      refine kRd_takesSign hP (by omega) hz_z6 ?_
      refine jx_next (pc := 31) (pc' := 32) rfl rfl ?_
      refine jx_next (pc := 32) (pc' := 33) rfl rfl ?_
      refine jx_next (pc := 33) (pc' := 34) rfl rfl ?_
      refine jx_next (pc := 34) (pc' := 35) rfl rfl ?_
      refine jx_next (pc := 35) (pc' := 36) rfl rfl ?_
      refine jx_next (pc := 36) (pc' := 37) rfl rfl ?_
      refine jx_callv (pc := 37) (o := o) (rest := []) rfl ⟨by decide, by decide⟩ rfl ho (Nat.le_of_ble_eq_true rfl) ?_
      obtain ⟨z7, hz_z7, K⟩ := Option.bind_eq_some_iff.mp K
      refine (Hg.2.2.2.1) ho hz_z7 ?_
      refine jx_next (pc := 40) (pc' := 41) rfl rfl ?_
      refine jx_next (pc := 41) (pc' := 43) rfl rfl ?_
      refine jx_callv (pc := 43) (o := 6) (rest := []) rfl ⟨by decide, by decide⟩ rfl jko_6 (Nat.le_of_ble_eq_true rfl) ?_
      obtain ⟨z8, hz_z8, K⟩ := Option.bind_eq_some_iff.mp K
      refine kRd_wantsSign hP (by omega) hz_z8 ?_
      refine jx_next (pc := 46) (pc' := 47) rfl rfl ?_
      refine jx_next (pc := 47) (pc' := 48) rfl rfl ?_
      refine jx_next (pc := 48) (pc' := 49) rfl rfl ?_
      refine jx_next (pc := 49) (pc' := 50) rfl rfl ?_
      refine jx_next (pc := 50) (pc' := 51) rfl rfl ?_
      refine jx_callv (pc := 51) (o := o) (rest := []) rfl ⟨by decide, by decide⟩ rfl ho (Nat.le_of_ble_eq_true rfl) ?_
      obtain ⟨z9, hz_z9, K⟩ := Option.bind_eq_some_iff.mp K
      refine (Hg.2.2.2.1) ho hz_z9 ?_
      refine jx_next (pc := 54) (pc' := 55) rfl rfl ?_
      refine jx_next (pc := 55) (pc' := 57) rfl rfl ?_
      refine jx_callv (pc := 57) (o := 6) (rest := []) rfl ⟨by decide, by decide⟩ rfl jko_6 (Nat.le_of_ble_eq_true rfl) ?_
      obtain ⟨z10, hz_z10, K⟩ := Option.bind_eq_some_iff.mp K
      refine kRd_wantsSign hP (by omega) hz_z10 ?_
      refine jx_next (pc := 60) (pc' := 61) rfl rfl ?_
      refine jx_next (pc := 61) (pc' := 62) rfl rfl ?_
      refine jx_callv (pc := 62) (o := o) (rest := []) rfl ⟨by decide, by decide⟩ rfl ho (Nat.le_of_ble_eq_true rfl) ?_
      obtain ⟨z11, hz_z11, K⟩ := Option.bind_eq_some_iff.mp K
      refine kFo_add hP ho (by omega) hz_z11 ?_
      obtain rfl := Option.some.inj K
      exact jx_ret (pc := 65) rfl rfl HQ
noncomputable def fFo_grp : Nat → jGr
  | 0 => fun _ _ _ _ _ => none
  | n + 1 => fun t o a b h => match t with
    | 0 => fFo_readTest_g (fFo_grp n) o a h
    | 1 => fFo_readBoth_g (fFo_grp n) o a h
    | 2 => fFo_readFact_g (fFo_grp n) o a h
    | 3 => fFo_readSum_g (fFo_grp n) o a h
    | 4 => fFo_readProduct_g (fFo_grp n) o a h
    | 5 => fFo_readPart_g (fFo_grp n) o a h
    | 6 => fFo_readPair_g (fFo_grp n) o a b h
    | _ => none
theorem kFo_grp_ok {X : jX} {p d : Nat} {q : Nat → Nat} (hP : jOK p d q) : ∀ (n dd : Nat), n + 12 ≤ dd → jGk X p d q (fFo_grp n) dd := by
  intro n
  induction n with
  | zero => intro dd _; exact ⟨fun _ h _ => (by cases h), fun _ h _ => (by cases h), fun _ h _ => (by cases h), fun _ h _ => (by cases h), fun _ h _ => (by cases h), fun _ h _ => (by cases h), fun _ h _ => (by cases h)⟩
  | succ n ih =>
    intro dd hd
    obtain ⟨dd, rfl⟩ : ∃ d9, dd = d9 + 1 := ⟨dd - 1, by omega⟩
    have Hg := ih dd (by omega)
    exact ⟨fun ho K HQ => kFo_readTest_g Hg hP ho (by omega) K HQ, fun ho K HQ => kFo_readBoth_g Hg hP ho (by omega) K HQ, fun ho K HQ => kFo_readFact_g Hg hP ho (by omega) K HQ, fun ho K HQ => kFo_readSum_g Hg hP ho (by omega) K HQ, fun ho K HQ => kFo_readProduct_g Hg hP ho (by omega) K HQ, fun ho K HQ => kFo_readPart_g Hg hP ho (by omega) K HQ, fun ho K HQ => kFo_readPair_g Hg hP ho (by omega) K HQ⟩
theorem kFo_readTest {X : jX} {dd : Nat} {p d : Nat} {q : Nat → Nat} {Q : Option Value → jS → Prop} {o : Nat} {a b : Int32} {h : jH} (hP : jOK p d q) (ho : jcl 176 o = 5) (hd : 412 ≤ dd) {z : jH} (K : fFo_grp 400 0 o a b h = some z) (HQ : Q none (176, jRf p d q, z)) : jCa X dd 170 [.ref o, .ref 6, .int a] (176, jRf p d q, h) Q := (kFo_grp_ok (X := X) hP 400 dd hd).1 ho K HQ
theorem kFo_readBoth {X : jX} {dd : Nat} {p d : Nat} {q : Nat → Nat} {Q : Option Value → jS → Prop} {o : Nat} {a b : Int32} {h : jH} (hP : jOK p d q) (ho : jcl 176 o = 5) (hd : 412 ≤ dd) {z : jH} (K : fFo_grp 400 1 o a b h = some z) (HQ : Q none (176, jRf p d q, z)) : jCa X dd 171 [.ref o, .ref 6, .int a] (176, jRf p d q, h) Q := (kFo_grp_ok (X := X) hP 400 dd hd).2.1 ho K HQ
theorem kFo_readFact {X : jX} {dd : Nat} {p d : Nat} {q : Nat → Nat} {Q : Option Value → jS → Prop} {o : Nat} {a b : Int32} {h : jH} (hP : jOK p d q) (ho : jcl 176 o = 5) (hd : 412 ≤ dd) {z : jH} (K : fFo_grp 400 2 o a b h = some z) (HQ : Q none (176, jRf p d q, z)) : jCa X dd 172 [.ref o, .ref 6, .int a] (176, jRf p d q, h) Q := (kFo_grp_ok (X := X) hP 400 dd hd).2.2.1 ho K HQ
theorem kFo_readSum {X : jX} {dd : Nat} {p d : Nat} {q : Nat → Nat} {Q : Option Value → jS → Prop} {o : Nat} {a b : Int32} {h : jH} (hP : jOK p d q) (ho : jcl 176 o = 5) (hd : 412 ≤ dd) {z : jH} (K : fFo_grp 400 3 o a b h = some z) (HQ : Q none (176, jRf p d q, z)) : jCa X dd 53 [.ref o, .ref 6, .int a] (176, jRf p d q, h) Q := (kFo_grp_ok (X := X) hP 400 dd hd).2.2.2.1 ho K HQ
theorem kFo_readProduct {X : jX} {dd : Nat} {p d : Nat} {q : Nat → Nat} {Q : Option Value → jS → Prop} {o : Nat} {a b : Int32} {h : jH} (hP : jOK p d q) (ho : jcl 176 o = 5) (hd : 412 ≤ dd) {z : jH} (K : fFo_grp 400 4 o a b h = some z) (HQ : Q none (176, jRf p d q, z)) : jCa X dd 55 [.ref o, .ref 6, .int a] (176, jRf p d q, h) Q := (kFo_grp_ok (X := X) hP 400 dd hd).2.2.2.2.1 ho K HQ
theorem kFo_readPart {X : jX} {dd : Nat} {p d : Nat} {q : Nat → Nat} {Q : Option Value → jS → Prop} {o : Nat} {a b : Int32} {h : jH} (hP : jOK p d q) (ho : jcl 176 o = 5) (hd : 412 ≤ dd) {z : jH} (K : fFo_grp 400 5 o a b h = some z) (HQ : Q none (176, jRf p d q, z)) : jCa X dd 56 [.ref o, .ref 6, .int a] (176, jRf p d q, h) Q := (kFo_grp_ok (X := X) hP 400 dd hd).2.2.2.2.2.1 ho K HQ
theorem kFo_readPair {X : jX} {dd : Nat} {p d : Nat} {q : Nat → Nat} {Q : Option Value → jS → Prop} {o : Nat} {a b : Int32} {h : jH} (hP : jOK p d q) (ho : jcl 176 o = 5) (hd : 412 ≤ dd) {z : jH} (K : fFo_grp 400 6 o a b h = some z) (HQ : Q none (176, jRf p d q, z)) : jCa X dd 61 [.ref o, .ref 6, .int a, .int b] (176, jRf p d q, h) Q := (kFo_grp_ok (X := X) hP 400 dd hd).2.2.2.2.2.2 ho K HQ
