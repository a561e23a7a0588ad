/-- java/lang/Integer.bitCount(I)I -/
noncomputable def fIn_bitCount (v0 : Int32) : Int32 :=
  ((((((((v0 - (((v0.toUInt32 >>> ((1 : Int32).toUInt32 &&& Int32.toUInt32 31)).toInt32) &&& 1431655765)) &&& 858993459) + ((((v0 - (((v0.toUInt32 >>> ((1 : Int32).toUInt32 &&& Int32.toUInt32 31)).toInt32) &&& 1431655765)).toUInt32 >>> ((2 : Int32).toUInt32 &&& Int32.toUInt32 31)).toInt32) &&& 858993459)) + (((((v0 - (((v0.toUInt32 >>> ((1 : Int32).toUInt32 &&& Int32.toUInt32 31)).toInt32) &&& 1431655765)) &&& 858993459) + ((((v0 - (((v0.toUInt32 >>> ((1 : Int32).toUInt32 &&& Int32.toUInt32 31)).toInt32) &&& 1431655765)).toUInt32 >>> ((2 : Int32).toUInt32 &&& Int32.toUInt32 31)).toInt32) &&& 858993459)).toUInt32 >>> ((4 : Int32).toUInt32 &&& Int32.toUInt32 31)).toInt32)) &&& 252645135) + (((((((v0 - (((v0.toUInt32 >>> ((1 : Int32).toUInt32 &&& Int32.toUInt32 31)).toInt32) &&& 1431655765)) &&& 858993459) + ((((v0 - (((v0.toUInt32 >>> ((1 : Int32).toUInt32 &&& Int32.toUInt32 31)).toInt32) &&& 1431655765)).toUInt32 >>> ((2 : Int32).toUInt32 &&& Int32.toUInt32 31)).toInt32) &&& 858993459)) + (((((v0 - (((v0.toUInt32 >>> ((1 : Int32).toUInt32 &&& Int32.toUInt32 31)).toInt32) &&& 1431655765)) &&& 858993459) + ((((v0 - (((v0.toUInt32 >>> ((1 : Int32).toUInt32 &&& Int32.toUInt32 31)).toInt32) &&& 1431655765)).toUInt32 >>> ((2 : Int32).toUInt32 &&& Int32.toUInt32 31)).toInt32) &&& 858993459)).toUInt32 >>> ((4 : Int32).toUInt32 &&& Int32.toUInt32 31)).toInt32)) &&& 252645135).toUInt32 >>> ((8 : Int32).toUInt32 &&& Int32.toUInt32 31)).toInt32)) + ((((((((v0 - (((v0.toUInt32 >>> ((1 : Int32).toUInt32 &&& Int32.toUInt32 31)).toInt32) &&& 1431655765)) &&& 858993459) + ((((v0 - (((v0.toUInt32 >>> ((1 : Int32).toUInt32 &&& Int32.toUInt32 31)).toInt32) &&& 1431655765)).toUInt32 >>> ((2 : Int32).toUInt32 &&& Int32.toUInt32 31)).toInt32) &&& 858993459)) + (((((v0 - (((v0.toUInt32 >>> ((1 : Int32).toUInt32 &&& Int32.toUInt32 31)).toInt32) &&& 1431655765)) &&& 858993459) + ((((v0 - (((v0.toUInt32 >>> ((1 : Int32).toUInt32 &&& Int32.toUInt32 31)).toInt32) &&& 1431655765)).toUInt32 >>> ((2 : Int32).toUInt32 &&& Int32.toUInt32 31)).toInt32) &&& 858993459)).toUInt32 >>> ((4 : Int32).toUInt32 &&& Int32.toUInt32 31)).toInt32)) &&& 252645135) + (((((((v0 - (((v0.toUInt32 >>> ((1 : Int32).toUInt32 &&& Int32.toUInt32 31)).toInt32) &&& 1431655765)) &&& 858993459) + ((((v0 - (((v0.toUInt32 >>> ((1 : Int32).toUInt32 &&& Int32.toUInt32 31)).toInt32) &&& 1431655765)).toUInt32 >>> ((2 : Int32).toUInt32 &&& Int32.toUInt32 31)).toInt32) &&& 858993459)) + (((((v0 - (((v0.toUInt32 >>> ((1 : Int32).toUInt32 &&& Int32.toUInt32 31)).toInt32) &&& 1431655765)) &&& 858993459) + ((((v0 - (((v0.toUInt32 >>> ((1 : Int32).toUInt32 &&& Int32.toUInt32 31)).toInt32) &&& 1431655765)).toUInt32 >>> ((2 : Int32).toUInt32 &&& Int32.toUInt32 31)).toInt32) &&& 858993459)).toUInt32 >>> ((4 : Int32).toUInt32 &&& Int32.toUInt32 31)).toInt32)) &&& 252645135).toUInt32 >>> ((8 : Int32).toUInt32 &&& Int32.toUInt32 31)).toInt32)).toUInt32 >>> ((16 : Int32).toUInt32 &&& Int32.toUInt32 31)).toInt32)) &&& 63 : Int32)
theorem kIn_bitCount {X : jX} {dd : Nat} {p d : Nat} {q : Nat → Nat} {Q : Option Value → jS → Prop} {v0 : Int32} {h : jH}  (hd : 0 ≤ dd) {z : Int32} (K : fIn_bitCount v0 = z) (HQ : Q (some (.int z)) (176, jRf p d q, h)) :
    jCa X dd 75 [.int v0] (176, jRf p d q, h) Q := by
  unfold fIn_bitCount at K
  refine jCa_of (es := jc_75) (pl := [some (.int v0)]) (M := jm_75) rfl rfl rfl rfl ?_
  refine jx_next (pc := 0) (pc' := 1) rfl rfl ?_
  refine jx_next (pc := 1) (pc' := 2) rfl rfl ?_
  refine jx_next (pc := 2) (pc' := 3) rfl rfl ?_
  refine jx_next (pc := 3) (pc' := 4) rfl rfl ?_
  refine jx_next (pc := 4) (pc' := 7) rfl rfl ?_
  refine jx_next (pc := 7) (pc' := 8) rfl rfl ?_
  refine jx_next (pc := 8) (pc' := 9) rfl rfl ?_
  refine jx_stin (pc := 9) (p2 := [some (.int (v0 - (((v0.toUInt32 >>> ((1 : Int32).toUInt32 &&& Int32.toUInt32 31)).toInt32) &&& 1431655765)))]) rfl (jlt rfl) rfl ?_
  refine jx_next (pc := 10) (pc' := 11) rfl rfl ?_
  refine jx_next (pc := 11) (pc' := 14) rfl rfl ?_
  refine jx_next (pc := 14) (pc' := 15) rfl rfl ?_
  refine jx_next (pc := 15) (pc' := 16) rfl rfl ?_
  refine jx_next (pc := 16) (pc' := 17) rfl rfl ?_
  refine jx_next (pc := 17) (pc' := 18) rfl rfl ?_
  refine jx_next (pc := 18) (pc' := 21) rfl rfl ?_
  refine jx_next (pc := 21) (pc' := 22) rfl rfl ?_
  refine jx_next (pc := 22) (pc' := 23) rfl rfl ?_
  refine jx_stin (pc := 23) (p2 := [some (.int (((v0 - (((v0.toUInt32 >>> ((1 : Int32).toUInt32 &&& Int32.toUInt32 31)).toInt32) &&& 1431655765)) &&& 858993459) + ((((v0 - (((v0.toUInt32 >>> ((1 : Int32).toUInt32 &&& Int32.toUInt32 31)).toInt32) &&& 1431655765)).toUInt32 >>> ((2 : Int32).toUInt32 &&& Int32.toUInt32 31)).toInt32) &&& 858993459)))]) rfl (jlt rfl) rfl ?_
  refine jx_next (pc := 24) (pc' := 25) rfl rfl ?_
  refine jx_next (pc := 25) (pc' := 26) rfl rfl ?_
  refine jx_next (pc := 26) (pc' := 27) rfl rfl ?_
  refine jx_next (pc := 27) (pc' := 28) rfl rfl ?_
  refine jx_next (pc := 28) (pc' := 29) rfl rfl ?_
  refine jx_next (pc := 29) (pc' := 32) rfl rfl ?_
  refine jx_next (pc := 32) (pc' := 33) rfl rfl ?_
  refine jx_stin (pc := 33) (p2 := [some (.int (((((v0 - (((v0.toUInt32 >>> ((1 : Int32).toUInt32 &&& Int32.toUInt32 31)).toInt32) &&& 1431655765)) &&& 858993459) + ((((v0 - (((v0.toUInt32 >>> ((1 : Int32).toUInt32 &&& Int32.toUInt32 31)).toInt32) &&& 1431655765)).toUInt32 >>> ((2 : Int32).toUInt32 &&& Int32.toUInt32 31)).toInt32) &&& 858993459)) + (((((v0 - (((v0.toUInt32 >>> ((1 : Int32).toUInt32 &&& Int32.toUInt32 31)).toInt32) &&& 1431655765)) &&& 858993459) + ((((v0 - (((v0.toUInt32 >>> ((1 : Int32).toUInt32 &&& Int32.toUInt32 31)).toInt32) &&& 1431655765)).toUInt32 >>> ((2 : Int32).toUInt32 &&& Int32.toUInt32 31)).toInt32) &&& 858993459)).toUInt32 >>> ((4 : Int32).toUInt32 &&& Int32.toUInt32 31)).toInt32)) &&& 252645135))]) rfl (jlt rfl) rfl ?_
  refine jx_next (pc := 34) (pc' := 35) rfl rfl ?_
  refine jx_next (pc := 35) (pc' := 36) rfl rfl ?_
  refine jx_next (pc := 36) (pc' := 38) rfl rfl ?_
  refine jx_next (pc := 38) (pc' := 39) rfl rfl ?_
  refine jx_next (pc := 39) (pc' := 40) rfl rfl ?_
  refine jx_stin (pc := 40) (p2 := [some (.int ((((((v0 - (((v0.toUInt32 >>> ((1 : Int32).toUInt32 &&& Int32.toUInt32 31)).toInt32) &&& 1431655765)) &&& 858993459) + ((((v0 - (((v0.toUInt32 >>> ((1 : Int32).toUInt32 &&& Int32.toUInt32 31)).toInt32) &&& 1431655765)).toUInt32 >>> ((2 : Int32).toUInt32 &&& Int32.toUInt32 31)).toInt32) &&& 858993459)) + (((((v0 - (((v0.toUInt32 >>> ((1 : Int32).toUInt32 &&& Int32.toUInt32 31)).toInt32) &&& 1431655765)) &&& 858993459) + ((((v0 - (((v0.toUInt32 >>> ((1 : Int32).toUInt32 &&& Int32.toUInt32 31)).toInt32) &&& 1431655765)).toUInt32 >>> ((2 : Int32).toUInt32 &&& Int32.toUInt32 31)).toInt32) &&& 858993459)).toUInt32 >>> ((4 : Int32).toUInt32 &&& Int32.toUInt32 31)).toInt32)) &&& 252645135) + (((((((v0 - (((v0.toUInt32 >>> ((1 : Int32).toUInt32 &&& Int32.toUInt32 31)).toInt32) &&& 1431655765)) &&& 858993459) + ((((v0 - (((v0.toUInt32 >>> ((1 : Int32).toUInt32 &&& Int32.toUInt32 31)).toInt32) &&& 1431655765)).toUInt32 >>> ((2 : Int32).toUInt32 &&& Int32.toUInt32 31)).toInt32) &&& 858993459)) + (((((v0 - (((v0.toUInt32 >>> ((1 : Int32).toUInt32 &&& Int32.toUInt32 31)).toInt32) &&& 1431655765)) &&& 858993459) + ((((v0 - (((v0.toUInt32 >>> ((1 : Int32).toUInt32 &&& Int32.toUInt32 31)).toInt32) &&& 1431655765)).toUInt32 >>> ((2 : Int32).toUInt32 &&& Int32.toUInt32 31)).toInt32) &&& 858993459)).toUInt32 >>> ((4 : Int32).toUInt32 &&& Int32.toUInt32 31)).toInt32)) &&& 252645135).toUInt32 >>> ((8 : Int32).toUInt32 &&& Int32.toUInt32 31)).toInt32)))]) rfl (jlt rfl) rfl ?_
  refine jx_next (pc := 41) (pc' := 42) rfl rfl ?_
  refine jx_next (pc := 42) (pc' := 43) rfl rfl ?_
  refine jx_next (pc := 43) (pc' := 45) rfl rfl ?_
  refine jx_next (pc := 45) (pc' := 46) rfl rfl ?_
  refine jx_next (pc := 46) (pc' := 47) rfl rfl ?_
  refine jx_stin (pc := 47) (p2 := [some (.int (((((((v0 - (((v0.toUInt32 >>> ((1 : Int32).toUInt32 &&& Int32.toUInt32 31)).toInt32) &&& 1431655765)) &&& 858993459) + ((((v0 - (((v0.toUInt32 >>> ((1 : Int32).toUInt32 &&& Int32.toUInt32 31)).toInt32) &&& 1431655765)).toUInt32 >>> ((2 : Int32).toUInt32 &&& Int32.toUInt32 31)).toInt32) &&& 858993459)) + (((((v0 - (((v0.toUInt32 >>> ((1 : Int32).toUInt32 &&& Int32.toUInt32 31)).toInt32) &&& 1431655765)) &&& 858993459) + ((((v0 - (((v0.toUInt32 >>> ((1 : Int32).toUInt32 &&& Int32.toUInt32 31)).toInt32) &&& 1431655765)).toUInt32 >>> ((2 : Int32).toUInt32 &&& Int32.toUInt32 31)).toInt32) &&& 858993459)).toUInt32 >>> ((4 : Int32).toUInt32 &&& Int32.toUInt32 31)).toInt32)) &&& 252645135) + (((((((v0 - (((v0.toUInt32 >>> ((1 : Int32).toUInt32 &&& Int32.toUInt32 31)).toInt32) &&& 1431655765)) &&& 858993459) + ((((v0 - (((v0.toUInt32 >>> ((1 : Int32).toUInt32 &&& Int32.toUInt32 31)).toInt32) &&& 1431655765)).toUInt32 >>> ((2 : Int32).toUInt32 &&& Int32.toUInt32 31)).toInt32) &&& 858993459)) + (((((v0 - (((v0.toUInt32 >>> ((1 : Int32).toUInt32 &&& Int32.toUInt32 31)).toInt32) &&& 1431655765)) &&& 858993459) + ((((v0 - (((v0.toUInt32 >>> ((1 : Int32).toUInt32 &&& Int32.toUInt32 31)).toInt32) &&& 1431655765)).toUInt32 >>> ((2 : Int32).toUInt32 &&& Int32.toUInt32 31)).toInt32) &&& 858993459)).toUInt32 >>> ((4 : Int32).toUInt32 &&& Int32.toUInt32 31)).toInt32)) &&& 252645135).toUInt32 >>> ((8 : Int32).toUInt32 &&& Int32.toUInt32 31)).toInt32)) + ((((((((v0 - (((v0.toUInt32 >>> ((1 : Int32).toUInt32 &&& Int32.toUInt32 31)).toInt32) &&& 1431655765)) &&& 858993459) + ((((v0 - (((v0.toUInt32 >>> ((1 : Int32).toUInt32 &&& Int32.toUInt32 31)).toInt32) &&& 1431655765)).toUInt32 >>> ((2 : Int32).toUInt32 &&& Int32.toUInt32 31)).toInt32) &&& 858993459)) + (((((v0 - (((v0.toUInt32 >>> ((1 : Int32).toUInt32 &&& Int32.toUInt32 31)).toInt32) &&& 1431655765)) &&& 858993459) + ((((v0 - (((v0.toUInt32 >>> ((1 : Int32).toUInt32 &&& Int32.toUInt32 31)).toInt32) &&& 1431655765)).toUInt32 >>> ((2 : Int32).toUInt32 &&& Int32.toUInt32 31)).toInt32) &&& 858993459)).toUInt32 >>> ((4 : Int32).toUInt32 &&& Int32.toUInt32 31)).toInt32)) &&& 252645135) + (((((((v0 - (((v0.toUInt32 >>> ((1 : Int32).toUInt32 &&& Int32.toUInt32 31)).toInt32) &&& 1431655765)) &&& 858993459) + ((((v0 - (((v0.toUInt32 >>> ((1 : Int32).toUInt32 &&& Int32.toUInt32 31)).toInt32) &&& 1431655765)).toUInt32 >>> ((2 : Int32).toUInt32 &&& Int32.toUInt32 31)).toInt32) &&& 858993459)) + (((((v0 - (((v0.toUInt32 >>> ((1 : Int32).toUInt32 &&& Int32.toUInt32 31)).toInt32) &&& 1431655765)) &&& 858993459) + ((((v0 - (((v0.toUInt32 >>> ((1 : Int32).toUInt32 &&& Int32.toUInt32 31)).toInt32) &&& 1431655765)).toUInt32 >>> ((2 : Int32).toUInt32 &&& Int32.toUInt32 31)).toInt32) &&& 858993459)).toUInt32 >>> ((4 : Int32).toUInt32 &&& Int32.toUInt32 31)).toInt32)) &&& 252645135).toUInt32 >>> ((8 : Int32).toUInt32 &&& Int32.toUInt32 31)).toInt32)).toUInt32 >>> ((16 : Int32).toUInt32 &&& Int32.toUInt32 31)).toInt32)))]) rfl (jlt rfl) rfl ?_
  refine jx_next (pc := 48) (pc' := 49) rfl rfl ?_
  refine jx_next (pc := 49) (pc' := 51) rfl rfl ?_
  refine jx_next (pc := 51) (pc' := 52) rfl rfl ?_
  obtain rfl := K
  exact jx_iret (pc := 52) rfl HQ
noncomputable def fSd_countOf_l4_j23 (o : Nat) (v1 : Int32) (v2 : Int32) (v3 : Int32) (h : jH) : Option ((Int32 × Int32) ⊕ (Int32)) :=
  some (.inl (v2, v3 + 1))
theorem kSd_countOf_l4_j23 {X : jX} {dd : Nat} {p d : Nat} {q : Nat → Nat} {Q : Option Value → jS → Prop} {o : Nat} {v1 : Int32} {v2 : Int32} {v3 : Int32} {h : jH} (hP : jOK p d q) (ho : jcl 176 o = 6) (hd : 0 ≤ dd) {z : (Int32 × Int32) ⊕ (Int32)} (K : fSd_countOf_l4_j23 o v1 v2 v3 h = some z) (HL : ∀ s : Int32 × Int32, z = .inl s → jEx X dd jc_76 4 [some (.ref o), some (.int v1), some (.int s.1), some (.int s.2)] [] (176, jRf p d q, h) Q) (HE0 : ∀ x : Int32, z = .inr x → jEx X dd jc_76 29 [none, none, some (.int x), none] [] (176, jRf p d q, h) Q) :
    jEx X dd jc_76 23 [some (.ref o), some (.int v1), some (.int v2), some (.int v3)] [] (176, jRf p d q, h) Q := by
  unfold fSd_countOf_l4_j23 at K
  refine jx_inc (pc := 23) (x := v3) (p2 := [some (.ref o), some (.int v1), some (.int v2), some (.int (v3 + 1))]) rfl rfl (jlt rfl) rfl ?_
  refine jx_next (pc := 26) (pc' := 4) rfl rfl ?_
  obtain rfl := Option.some.inj K
  refine jx_le (pl' := [some (.ref o), some (.int v1), some (.int v2), some (.int (v3 + 1))]) (jle_v (jle_v (jle_v (jle_v jle_nil)))) ?_
  exact HL (v2, v3 + 1) rfl
noncomputable def fSd_countOf_l4_b (o : Nat) (v1 : Int32) (v2 : Int32) (v3 : Int32) (h : jH) : Option ((Int32 × Int32) ⊕ (Int32)) :=
  (if v3 < 8 then
  (if jin v3 8 then
  (if (h.1 (o + 1) v3.toNatClampNeg) = v1 then
  fSd_countOf_l4_j23  o v1 (v2 + 1) v3 h
  else
  fSd_countOf_l4_j23  o v1 v2 v3 h)
  else none)
  else
  some (.inr v2))
noncomputable def fSd_countOf_l4 (o : Nat) (v1 : Int32) (h : jH) : (Int32 × Int32) → Option ((Int32 × Int32) ⊕ (Int32)) :=
  fun (s : Int32 × Int32) => fSd_countOf_l4_b o v1 s.1 s.2 h
theorem kSd_countOf_l4_b {X : jX} {dd : Nat} {p d : Nat} {q : Nat → Nat} {Q : Option Value → jS → Prop} {o : Nat} {v1 : Int32} {v2 : Int32} {v3 : Int32} {h : jH} (hP : jOK p d q) (ho : jcl 176 o = 6) (hd : 0 ≤ dd) {z : (Int32 × Int32) ⊕ (Int32)} (K : fSd_countOf_l4_b o v1 v2 v3 h = some z) (HL : ∀ s : Int32 × Int32, z = .inl s → jEx X dd jc_76 4 [some (.ref o), some (.int v1), some (.int s.1), some (.int s.2)] [] (176, jRf p d q, h) Q) (HE0 : ∀ x : Int32, z = .inr x → jEx X dd jc_76 29 [none, none, some (.int x), none] [] (176, jRf p d q, h) Q) :
    jEx X dd jc_76 4 [some (.ref o), some (.int v1), some (.int v2), some (.int v3)] [] (176, jRf p d q, h) Q := by
  unfold fSd_countOf_l4_b at K
  refine jx_next (pc := 4) (pc' := 5) rfl rfl ?_
  refine jx_next (pc := 5) (pc' := 7) rfl rfl ?_
  refine jx_icge (pc := 7) rfl (fun hc1 => ?_) (fun hc1 => ?_)
  · replace K := (if_pos hc1).symm.trans K
    refine jx_next (pc := 10) (pc' := 11) rfl rfl ?_
    refine jx_getr2 (pc := 11) rfl ho (jrm_6_2 ho) ?_
    refine jx_next (pc := 14) (pc' := 15) rfl rfl ?_
    obtain ⟨hg2, K⟩ := jguard K
    refine jx_iald2 (pc := 15) rfl (jkm_6_2 ho) (jnm_6_2 ho) hg2 ?_
    refine jx_next (pc := 16) (pc' := 17) rfl rfl ?_
    refine jx_icne (pc := 17) rfl (fun hc3 => ?_) (fun hc3 => ?_)
    · replace K := (if_pos hc3).symm.trans K
      refine jx_inc (pc := 20) (x := v2) (p2 := [some (.ref o), some (.int v1), some (.int (v2 + 1)), some (.int v3)]) rfl rfl (jlt rfl) rfl ?_
      refine jx_le (pl' := [some (.ref o), some (.int v1), some (.int (v2 + 1)), some (.int v3)]) (jle_v (jle_v (jle_v (jle_v jle_nil)))) ?_
      exact kSd_countOf_l4_j23 hP ho hd K HL HE0
    · replace K := (if_neg hc3).symm.trans K
      refine jx_le (pl' := [some (.ref o), some (.int v1), some (.int v2), some (.int v3)]) (jle_v (jle_v (jle_v (jle_v jle_nil)))) ?_
      exact kSd_countOf_l4_j23 hP ho hd K HL HE0
  · replace K := (if_neg hc1).symm.trans K
    obtain rfl := Option.some.inj K
    refine jx_le (pl' := [none, none, some (.int v2), none]) (jle_n (jle_n (jle_v (jle_n jle_nil)))) ?_
    exact HE0 _ rfl
theorem kSd_countOf_l4_w {X : jX} {dd : Nat} {p d : Nat} {q : Nat → Nat} {Q : Option Value → jS → Prop} {o : Nat} {v1 : Int32} {h : jH} (hP : jOK p d q) (ho : jcl 176 o = 6) (hd : 0 ≤ dd) {s : Int32 × Int32} {x : Int32} (K : jlim (fSd_countOf_l4 o v1 h) s = some x) (HE : jEx X dd jc_76 29 [none, none, some (.int x), none] [] (176, jRf p d q, h) Q) :
    jEx X dd jc_76 4 [some (.ref o), some (.int v1), some (.int s.1), some (.int s.2)] [] (176, jRf p d q, h) Q := by
  refine jlim_ok (G := fun s : Int32 × Int32 => jEx X dd jc_76 4 [some (.ref o), some (.int v1), some (.int s.1), some (.int s.2)] [] (176, jRf p d q, h) Q) (GX := fun x : Int32 => jEx X dd jc_76 29 [none, none, some (.int x), none] [] (176, jRf p d q, h) Q) (fun s z hz HL HE => ?_) K HE
  exact kSd_countOf_l4_b hP ho hd hz HL HE
/-- AndGuest$Standing.countOf(I)I -/
noncomputable def fSd_countOf (o : Nat) (v1 : Int32) (h : jH) : Option Int32 :=
  (Option.bind (jlim (fSd_countOf_l4  o v1 h) (0, 0)) (fun (x4 : Int32) =>
  some (x4 : Int32)))
theorem kSd_countOf {X : jX} {dd : Nat} {p d : Nat} {q : Nat → Nat} {Q : Option Value → jS → Prop} {o : Nat} {v1 : Int32} {h : jH} (hP : jOK p d q) (ho : jcl 176 o = 6) (hd : 0 ≤ dd) {z : Int32} (K : fSd_countOf o v1 h = some z) (HQ : Q (some (.int z)) (176, jRf p d q, h)) :
    jCa X dd 76 [.ref o, .int v1] (176, jRf p d q, h) Q := by
  unfold fSd_countOf at K
  refine jCa_of (es := jc_76) (pl := [some (.ref o), some (.int v1), none, none]) (M := jm_76) rfl rfl rfl rfl ?_
  refine jx_next (pc := 0) (pc' := 1) rfl rfl ?_
  refine jx_stin (pc := 1) (p2 := [some (.ref o), some (.int v1), some (.int 0), none]) rfl (jlt rfl) rfl ?_
  refine jx_next (pc := 2) (pc' := 3) rfl rfl ?_
  refine jx_stin (pc := 3) (p2 := [some (.ref o), some (.int v1), some (.int 0), some (.int 0)]) rfl (jlt rfl) rfl ?_
  refine jx_le (pl' := [some (.ref o), some (.int v1), some (.int 0), some (.int 0)]) (jle_v (jle_v (jle_v (jle_v jle_nil)))) ?_
  obtain ⟨x4, hz_x4, K⟩ := Option.bind_eq_some_iff.mp K
  refine kSd_countOf_l4_w hP ho hd hz_x4 ?_
  refine jx_next (pc := 29) (pc' := 30) rfl rfl ?_
  obtain rfl := Option.some.inj K
  exact jx_iret (pc := 30) rfl HQ
/-- AndGuest$Standing.isAsked(I)Z -/
noncomputable def fSd_isAsked (o : Nat) (v1 : Int32) (h : jH) : Option Int32 :=
  (if v1 < 0 then
  some (0 : Int32)
  else
  (if v1 < 8 then
  (if jin v1 8 then
  (if (h.1 (o + 1) v1.toNatClampNeg) = 0 then
  some (0 : Int32)
  else
  some (1 : Int32))
  else none)
  else
  some (0 : Int32)))
theorem kSd_isAsked {X : jX} {dd : Nat} {p d : Nat} {q : Nat → Nat} {Q : Option Value → jS → Prop} {o : Nat} {v1 : Int32} {h : jH} (hP : jOK p d q) (ho : jcl 176 o = 6) (hd : 0 ≤ dd) {z : Int32} (K : fSd_isAsked o v1 h = some z) (HQ : Q (some (.int z)) (176, jRf p d q, h)) :
    jCa X dd 78 [.ref o, .int v1] (176, jRf p d q, h) Q := by
  unfold fSd_isAsked at K
  refine jCa_of (es := jc_78) (pl := [some (.ref o), some (.int v1)]) (M := jm_78) rfl rfl rfl rfl ?_
  refine jx_next (pc := 0) (pc' := 1) rfl rfl ?_
  refine jx_iflt (pc := 1) rfl (fun hc1 => ?_) (fun hc1 => ?_)
  · replace K := (if_pos hc1).symm.trans K
    refine jx_next (pc := 23) (pc' := 24) rfl rfl ?_
    obtain rfl := Option.some.inj K
    exact jx_zret (pc := 24) rfl (Or.inl rfl) HQ
  · replace K := (if_neg hc1).symm.trans K
    refine jx_next (pc := 4) (pc' := 5) rfl rfl ?_
    refine jx_next (pc := 5) (pc' := 7) rfl rfl ?_
    refine jx_icge (pc := 7) rfl (fun hc2 => ?_) (fun hc2 => ?_)
    · replace K := (if_pos hc2).symm.trans K
      refine jx_next (pc := 10) (pc' := 11) rfl rfl ?_
      refine jx_getr2 (pc := 11) rfl ho (jrm_6_2 ho) ?_
      refine jx_next (pc := 14) (pc' := 15) rfl rfl ?_
      obtain ⟨hg3, K⟩ := jguard K
      refine jx_iald2 (pc := 15) rfl (jkm_6_2 ho) (jnm_6_2 ho) hg3 ?_
      refine jx_ifeq (pc := 16) rfl (fun hc4 => ?_) (fun hc4 => ?_)
      · replace K := (if_pos hc4).symm.trans K
        refine jx_next (pc := 23) (pc' := 24) rfl rfl ?_
        obtain rfl := Option.some.inj K
        exact jx_zret (pc := 24) rfl (Or.inl rfl) HQ
      · replace K := (if_neg hc4).symm.trans K
        refine jx_next (pc := 19) (pc' := 20) rfl rfl ?_
        refine jx_next (pc := 20) (pc' := 24) rfl rfl ?_
        obtain rfl := Option.some.inj K
        exact jx_zret (pc := 24) rfl (Or.inr rfl) HQ
    · replace K := (if_neg hc2).symm.trans K
      refine jx_next (pc := 23) (pc' := 24) rfl rfl ?_
      obtain rfl := Option.some.inj K
      exact jx_zret (pc := 24) rfl (Or.inl rfl) HQ
noncomputable def fPy_mostHeads_l4_j57 (p : Nat) (v1 : Int32) (v2 : Int32) (h : jH) : Option ((Int32 × Int32) ⊕ (Int32)) :=
  some (.inl (v1, v2 + 1))
theorem kPy_mostHeads_l4_j57 {X : jX} {dd : Nat} {p d : Nat} {q : Nat → Nat} {Q : Option Value → jS → Prop} {v1 : Int32} {v2 : Int32} {h : jH} (hP : jOK p d q)  (hd : 1 ≤ (dd + 1)) {z : (Int32 × Int32) ⊕ (Int32)} (K : fPy_mostHeads_l4_j57 p v1 v2 h = some z) (HL : ∀ s : Int32 × Int32, z = .inl s → jEx X (dd + 1) jc_77 4 [some (.ref 79), some (.int s.1), some (.int s.2)] [] (176, jRf p d q, h) Q) (HE0 : ∀ x : Int32, z = .inr x → jEx X (dd + 1) jc_77 63 [none, some (.int x), none] [] (176, jRf p d q, h) Q) :
    jEx X (dd + 1) jc_77 57 [some (.ref 79), some (.int v1), some (.int v2)] [] (176, jRf p d q, h) Q := by
  unfold fPy_mostHeads_l4_j57 at K
  refine jx_inc (pc := 57) (x := v2) (p2 := [some (.ref 79), some (.int v1), some (.int (v2 + 1))]) rfl rfl (jlt rfl) rfl ?_
  refine jx_next (pc := 60) (pc' := 4) rfl rfl ?_
  obtain rfl := Option.some.inj K
  refine jx_le (pl' := [some (.ref 79), some (.int v1), some (.int (v2 + 1))]) (jle_v (jle_v (jle_v jle_nil))) ?_
  exact HL (v1, v2 + 1) rfl
noncomputable def fPy_mostHeads_l4_b (p : Nat) (v1 : Int32) (v2 : Int32) (h : jH) : Option ((Int32 × Int32) ⊕ (Int32)) :=
  (if v2 < (h.1 p 0) then
  (if v2 < 8 then
  (Option.bind (fSd_isAsked 11 v2 h) (fun (z3 : Int32) =>
  (if z3 = 0 then
  fPy_mostHeads_l4_j57  p v1 v2 h
  else
  (if jin v2 8 then
  (if (h.1 (11 + 1) v2.toNatClampNeg) = 3 then
  fPy_mostHeads_l4_j57  p v1 v2 h
  else
  (if jin v2 8 then
  fPy_mostHeads_l4_j57  p (v1 + (h.1 (p + 4) v2.toNatClampNeg)) v2 h
  else none))
  else none))))
  else
  some (.inr v1))
  else
  some (.inr v1))
noncomputable def fPy_mostHeads_l4 (p : Nat)  (h : jH) : (Int32 × Int32) → Option ((Int32 × Int32) ⊕ (Int32)) :=
  fun (s : Int32 × Int32) => fPy_mostHeads_l4_b p s.1 s.2 h
theorem kPy_mostHeads_l4_b {X : jX} {dd : Nat} {p d : Nat} {q : Nat → Nat} {Q : Option Value → jS → Prop} {v1 : Int32} {v2 : Int32} {h : jH} (hP : jOK p d q)  (hd : 1 ≤ (dd + 1)) {z : (Int32 × Int32) ⊕ (Int32)} (K : fPy_mostHeads_l4_b p v1 v2 h = some z) (HL : ∀ s : Int32 × Int32, z = .inl s → jEx X (dd + 1) jc_77 4 [some (.ref 79), some (.int s.1), some (.int s.2)] [] (176, jRf p d q, h) Q) (HE0 : ∀ x : Int32, z = .inr x → jEx X (dd + 1) jc_77 63 [none, some (.int x), none] [] (176, jRf p d q, h) Q) :
    jEx X (dd + 1) jc_77 4 [some (.ref 79), some (.int v1), some (.int v2)] [] (176, jRf p d q, h) Q := by
  unfold fPy_mostHeads_l4_b at K
  refine jx_next (pc := 4) (pc' := 5) rfl rfl ?_
  refine jx_next (pc := 5) (pc' := 6) rfl rfl ?_
  refine jx_getr2 (pc := 6) rfl jko_79 jr_8_4 ?_
  refine jx_geti (pc := 9) rfl hP.1 ?_
  refine jx_icge (pc := 12) rfl (fun hc1 => ?_) (fun hc1 => ?_)
  · replace K := (if_pos hc1).symm.trans K
    refine jx_next (pc := 15) (pc' := 16) rfl rfl ?_
    refine jx_next (pc := 16) (pc' := 18) rfl rfl ?_
    refine jx_icge (pc := 18) rfl (fun hc2 => ?_) (fun hc2 => ?_)
    · replace K := (if_pos hc2).symm.trans K
      refine jx_next (pc := 21) (pc' := 22) rfl rfl ?_
      refine jx_getr2 (pc := 22) rfl jko_79 jr_8_0 ?_
      refine jx_next (pc := 25) (pc' := 26) rfl rfl ?_
      refine jx_callv (pc := 26) (o := 11) (rest := []) rfl ⟨by decide, by decide⟩ rfl jko_11 (Nat.le_of_ble_eq_true rfl) ?_
      obtain ⟨z3, hz_z3, K⟩ := Option.bind_eq_some_iff.mp K
      refine kSd_isAsked hP jko_11 (by omega) hz_z3 ?_
      refine jx_ifeq (pc := 29) rfl (fun hc4 => ?_) (fun hc4 => ?_)
      · replace K := (if_pos hc4).symm.trans K
        refine jx_le (pl' := [some (.ref 79), some (.int v1), some (.int v2)]) (jle_v (jle_v (jle_v jle_nil))) ?_
        exact kPy_mostHeads_l4_j57 hP  hd K HL HE0
      · replace K := (if_neg hc4).symm.trans K
        refine jx_next (pc := 32) (pc' := 33) rfl rfl ?_
        refine jx_getr2 (pc := 33) rfl jko_79 jr_8_0 ?_
        refine jx_getr2 (pc := 36) rfl jko_11 (jrm_6_2 jko_11) ?_
        refine jx_next (pc := 39) (pc' := 40) rfl rfl ?_
        obtain ⟨hg5, K⟩ := jguard K
        refine jx_iald2 (pc := 40) rfl (jkm_6_2 jko_11) (jnm_6_2 jko_11) hg5 ?_
        refine jx_next (pc := 41) (pc' := 42) rfl rfl ?_
        refine jx_iceq (pc := 42) rfl (fun hc6 => ?_) (fun hc6 => ?_)
        · replace K := (if_pos hc6).symm.trans K
          refine jx_le (pl' := [some (.ref 79), some (.int v1), some (.int v2)]) (jle_v (jle_v (jle_v jle_nil))) ?_
          exact kPy_mostHeads_l4_j57 hP  hd K HL HE0
        · replace K := (if_neg hc6).symm.trans K
          refine jx_next (pc := 45) (pc' := 46) rfl rfl ?_
          refine jx_next (pc := 46) (pc' := 47) rfl rfl ?_
          refine jx_getr2 (pc := 47) rfl jko_79 jr_8_4 ?_
          refine jx_getr2 (pc := 50) rfl hP.1 (jrm_10_13 hP.1) ?_
          refine jx_next (pc := 53) (pc' := 54) rfl rfl ?_
          obtain ⟨hg7, K⟩ := jguard K
          refine jx_iald2 (pc := 54) rfl (jkm_10_13 hP.1) (jnm_10_13 hP.1) hg7 ?_
          refine jx_next (pc := 55) (pc' := 56) rfl rfl ?_
          refine jx_stin (pc := 56) (p2 := [some (.ref 79), some (.int (v1 + (h.1 (p + 4) v2.toNatClampNeg))), some (.int v2)]) rfl (jlt rfl) rfl ?_
          refine jx_le (pl' := [some (.ref 79), some (.int (v1 + (h.1 (p + 4) v2.toNatClampNeg))), some (.int v2)]) (jle_v (jle_v (jle_v jle_nil))) ?_
          exact kPy_mostHeads_l4_j57 hP  hd K HL HE0
    · replace K := (if_neg hc2).symm.trans K
      obtain rfl := Option.some.inj K
      refine jx_le (pl' := [none, some (.int v1), none]) (jle_n (jle_v (jle_n jle_nil))) ?_
      exact HE0 _ rfl
  · replace K := (if_neg hc1).symm.trans K
    obtain rfl := Option.some.inj K
    refine jx_le (pl' := [none, some (.int v1), none]) (jle_n (jle_v (jle_n jle_nil))) ?_
    exact HE0 _ rfl
theorem kPy_mostHeads_l4_w {X : jX} {dd : Nat} {p d : Nat} {q : Nat → Nat} {Q : Option Value → jS → Prop}  {h : jH} (hP : jOK p d q)  (hd : 1 ≤ (dd + 1)) {s : Int32 × Int32} {x : Int32} (K : jlim (fPy_mostHeads_l4 p  h) s = some x) (HE : jEx X (dd + 1) jc_77 63 [none, some (.int x), none] [] (176, jRf p d q, h) Q) :
    jEx X (dd + 1) jc_77 4 [some (.ref 79), some (.int s.1), some (.int s.2)] [] (176, jRf p d q, h) Q := by
  refine jlim_ok (G := fun s : Int32 × Int32 => jEx X (dd + 1) jc_77 4 [some (.ref 79), some (.int s.1), some (.int s.2)] [] (176, jRf p d q, h) Q) (GX := fun x : Int32 => jEx X (dd + 1) jc_77 63 [none, some (.int x), none] [] (176, jRf p d q, h) Q) (fun s z hz HL HE => ?_) K HE
  exact kPy_mostHeads_l4_b hP  hd hz HL HE
/-- AndGuest$Party.mostHeads()I -/
noncomputable def fPy_mostHeads (p : Nat)  (h : jH) : Option Int32 :=
  (Option.bind (jlim (fPy_mostHeads_l4  p h) (0, 0)) (fun (x8 : Int32) =>
  some (x8 : Int32)))
theorem kPy_mostHeads {X : jX} {dd : Nat} {p d : Nat} {q : Nat → Nat} {Q : Option Value → jS → Prop}  {h : jH} (hP : jOK p d q)  (hd : 1 ≤ dd) {z : Int32} (K : fPy_mostHeads p  h = some z) (HQ : Q (some (.int z)) (176, jRf p d q, h)) :
    jCa X dd 77 [.ref 79] (176, jRf p d q, h) Q := by
  obtain ⟨dd, rfl⟩ : ∃ d9, dd = d9 + 1 := ⟨dd - 1, by omega⟩
  unfold fPy_mostHeads at K
  refine jCa_of (es := jc_77) (pl := [some (.ref 79), none, none]) (M := jm_77) rfl rfl rfl rfl ?_
  refine jx_next (pc := 0) (pc' := 1) rfl rfl ?_
  refine jx_stin (pc := 1) (p2 := [some (.ref 79), some (.int 0), none]) rfl (jlt rfl) rfl ?_
  refine jx_next (pc := 2) (pc' := 3) rfl rfl ?_
  refine jx_stin (pc := 3) (p2 := [some (.ref 79), some (.int 0), some (.int 0)]) rfl (jlt rfl) rfl ?_
  refine jx_le (pl' := [some (.ref 79), some (.int 0), some (.int 0)]) (jle_v (jle_v (jle_v jle_nil))) ?_
  obtain ⟨x8, hz_x8, K⟩ := Option.bind_eq_some_iff.mp K
  refine kPy_mostHeads_l4_w hP  hd hz_x8 ?_
  refine jx_next (pc := 63) (pc' := 64) rfl rfl ?_
  obtain rfl := Option.some.inj K
  exact jx_iret (pc := 64) rfl HQ
/-- AndGuest$Past.size()I -/
noncomputable def fPa_size  (h : jH) : Int32 :=
  (h.1 17 1 : Int32)
theorem kPa_size {X : jX} {dd : Nat} {p d : Nat} {q : Nat → Nat} {Q : Option Value → jS → Prop}  {h : jH} (hP : jOK p d q)  (hd : 0 ≤ dd) {z : Int32} (K : fPa_size  h = z) (HQ : Q (some (.int z)) (176, jRf p d q, h)) :
    jCa X dd 79 [.ref 17] (176, jRf p d q, h) Q := by
  unfold fPa_size at K
  refine jCa_of (es := jc_79) (pl := [some (.ref 17)]) (M := jm_79) rfl rfl rfl rfl ?_
  refine jx_next (pc := 0) (pc' := 1) rfl rfl ?_
  refine jx_geti (pc := 1) rfl jko_17 ?_
  obtain rfl := K
  exact jx_iret (pc := 4) rfl HQ
/-- AndGuest.has(I)I -/
noncomputable def fA_has (p : Nat) (v1 : Int32) (h : jH) : Option Int32 :=
  (if v1 = 0 then
  some (h.1 p 0 : Int32)
  else
  (if v1 = 1 then
  some (h.1 p 1 : Int32)
  else
  (if v1 = 2 then
  some (h.1 p 3 : Int32)
  else
  (if v1 = 3 then
  some (h.1 11 0 : Int32)
  else
  (if v1 = 4 then
  (Option.bind (fSd_askedSet 11 h) (fun (z2 : Int32) =>
  some ((fIn_bitCount z2) : Int32)))
  else
  (if v1 = 5 then
  (Option.bind (fSd_countOf 11 1 h) (fun (z4 : Int32) =>
  some (z4 : Int32)))
  else
  (if v1 = 6 then
  (Option.bind (fSd_countOf 11 2 h) (fun (z5 : Int32) =>
  some (z5 : Int32)))
  else
  (if v1 = 7 then
  (Option.bind (fSd_countOf 11 3 h) (fun (z6 : Int32) =>
  some (z6 : Int32)))
  else
  (if v1 = 8 then
  (Option.bind (fSd_countOf 11 4 h) (fun (z7 : Int32) =>
  some (z7 : Int32)))
  else
  (if v1 = 9 then
  (Option.bind (fPy_mostHeads p h) (fun (z8 : Int32) =>
  some (z8 : Int32)))
  else
  (if v1 = 10 then
  some ((fPa_size h) : Int32)
  else
  some ((-1) : Int32))))))))))))
theorem kA_has {X : jX} {dd : Nat} {p d : Nat} {q : Nat → Nat} {Q : Option Value → jS → Prop} {v1 : Int32} {h : jH} (hP : jOK p d q)  (hd : 2 ≤ dd) {z : Int32} (K : fA_has p v1 h = some z) (HQ : Q (some (.int z)) (176, jRf p d q, h)) :
    jCa X dd 72 [.ref 1, .int v1] (176, jRf p d q, h) Q := by
  obtain ⟨dd, rfl⟩ : ∃ d9, dd = d9 + 1 := ⟨dd - 1, by omega⟩
  unfold fA_has at K
  refine jCa_of (es := jc_72) (pl := [some (.ref 1), some (.int v1), none]) (M := jm_72) rfl rfl rfl rfl ?_
  refine jx_next (pc := 0) (pc' := 1) rfl rfl ?_
  refine jx_getr2 (pc := 1) rfl jko_1 jr_1_8 ?_
  refine jx_callv (pc := 4) (o := 79) (rest := []) rfl ⟨by decide, by decide⟩ rfl jko_79 (Nat.le_of_ble_eq_true rfl) ?_
  refine kPy_plan hP (by omega) rfl ?_
  refine jx_stan (pc := 7) (p2 := [some (.ref 1), some (.int v1), some (.ref p)]) rfl (jlt rfl) rfl ?_
  refine jx_next (pc := 8) (pc' := 9) rfl rfl ?_
  refine jx_tsw (pc := 9) rfl ?_
  refine jx_sw1 (fun hc20 => ?_) (fun hc20 => ?_)
  · replace K := (if_pos hc20).symm.trans K
    refine jx_next (pc := 68) (pc' := 69) rfl rfl ?_
    refine jx_geti (pc := 69) rfl hP.1 ?_
    obtain rfl := Option.some.inj K
    exact jx_iret (pc := 72) rfl HQ
  · replace K := (if_neg hc20).symm.trans K
    refine jx_sw1 (fun hc19 => ?_) (fun hc19 => ?_)
    · replace K := (if_pos hc19).symm.trans K
      refine jx_next (pc := 73) (pc' := 74) rfl rfl ?_
      refine jx_geti (pc := 74) rfl hP.1 ?_
      obtain rfl := Option.some.inj K
      exact jx_iret (pc := 77) rfl HQ
    · replace K := (if_neg hc19).symm.trans K
      refine jx_sw1 (fun hc18 => ?_) (fun hc18 => ?_)
      · replace K := (if_pos hc18).symm.trans K
        refine jx_next (pc := 78) (pc' := 79) rfl rfl ?_
        refine jx_geti (pc := 79) rfl hP.1 ?_
        obtain rfl := Option.some.inj K
        exact jx_iret (pc := 82) rfl HQ
      · replace K := (if_neg hc18).symm.trans K
        refine jx_sw1 (fun hc17 => ?_) (fun hc17 => ?_)
        · replace K := (if_pos hc17).symm.trans K
          refine jx_next (pc := 83) (pc' := 84) rfl rfl ?_
          refine jx_getr2 (pc := 84) rfl jko_1 jr_1_5 ?_
          refine jx_geti (pc := 87) rfl jko_11 ?_
          obtain rfl := Option.some.inj K
          exact jx_iret (pc := 90) rfl HQ
        · replace K := (if_neg hc17).symm.trans K
          refine jx_sw1 (fun hc16 => ?_) (fun hc16 => ?_)
          · replace K := (if_pos hc16).symm.trans K
            refine jx_next (pc := 91) (pc' := 92) rfl rfl ?_
            refine jx_getr2 (pc := 92) rfl jko_1 jr_1_5 ?_
            refine jx_callv (pc := 95) (o := 11) (rest := []) rfl ⟨by decide, by decide⟩ rfl jko_11 (Nat.le_of_ble_eq_true rfl) ?_
            obtain ⟨z2, hz_z2, K⟩ := Option.bind_eq_some_iff.mp K
            refine kSd_askedSet hP jko_11 (by omega) hz_z2 ?_
            refine jx_calls (pc := 98) rfl (Nat.le_of_ble_eq_true rfl) (Nat.le_of_ble_eq_true rfl) ?_
            refine kIn_bitCount  (by omega) rfl ?_
            obtain rfl := Option.some.inj K
            exact jx_iret (pc := 101) rfl HQ
          · replace K := (if_neg hc16).symm.trans K
            refine jx_sw1 (fun hc15 => ?_) (fun hc15 => ?_)
            · replace K := (if_pos hc15).symm.trans K
              refine jx_next (pc := 102) (pc' := 103) rfl rfl ?_
              refine jx_getr2 (pc := 103) rfl jko_1 jr_1_5 ?_
              refine jx_next (pc := 106) (pc' := 107) rfl rfl ?_
              refine jx_callv (pc := 107) (o := 11) (rest := []) rfl ⟨by decide, by decide⟩ rfl jko_11 (Nat.le_of_ble_eq_true rfl) ?_
              obtain ⟨z4, hz_z4, K⟩ := Option.bind_eq_some_iff.mp K
              refine kSd_countOf hP jko_11 (by omega) hz_z4 ?_
              obtain rfl := Option.some.inj K
              exact jx_iret (pc := 110) rfl HQ
            · replace K := (if_neg hc15).symm.trans K
              refine jx_sw1 (fun hc14 => ?_) (fun hc14 => ?_)
              · replace K := (if_pos hc14).symm.trans K
                refine jx_next (pc := 111) (pc' := 112) rfl rfl ?_
                refine jx_getr2 (pc := 112) rfl jko_1 jr_1_5 ?_
                refine jx_next (pc := 115) (pc' := 116) rfl rfl ?_
                refine jx_callv (pc := 116) (o := 11) (rest := []) rfl ⟨by decide, by decide⟩ rfl jko_11 (Nat.le_of_ble_eq_true rfl) ?_
                obtain ⟨z5, hz_z5, K⟩ := Option.bind_eq_some_iff.mp K
                refine kSd_countOf hP jko_11 (by omega) hz_z5 ?_
                obtain rfl := Option.some.inj K
                exact jx_iret (pc := 119) rfl HQ
              · replace K := (if_neg hc14).symm.trans K
                refine jx_sw1 (fun hc13 => ?_) (fun hc13 => ?_)
                · replace K := (if_pos hc13).symm.trans K
                  refine jx_next (pc := 120) (pc' := 121) rfl rfl ?_
                  refine jx_getr2 (pc := 121) rfl jko_1 jr_1_5 ?_
                  refine jx_next (pc := 124) (pc' := 125) rfl rfl ?_
                  refine jx_callv (pc := 125) (o := 11) (rest := []) rfl ⟨by decide, by decide⟩ rfl jko_11 (Nat.le_of_ble_eq_true rfl) ?_
                  obtain ⟨z6, hz_z6, K⟩ := Option.bind_eq_some_iff.mp K
                  refine kSd_countOf hP jko_11 (by omega) hz_z6 ?_
                  obtain rfl := Option.some.inj K
                  exact jx_iret (pc := 128) rfl HQ
                · replace K := (if_neg hc13).symm.trans K
                  refine jx_sw1 (fun hc12 => ?_) (fun hc12 => ?_)
                  · replace K := (if_pos hc12).symm.trans K
                    refine jx_next (pc := 129) (pc' := 130) rfl rfl ?_
                    refine jx_getr2 (pc := 130) rfl jko_1 jr_1_5 ?_
                    refine jx_next (pc := 133) (pc' := 134) rfl rfl ?_
                    refine jx_callv (pc := 134) (o := 11) (rest := []) rfl ⟨by decide, by decide⟩ rfl jko_11 (Nat.le_of_ble_eq_true rfl) ?_
                    obtain ⟨z7, hz_z7, K⟩ := Option.bind_eq_some_iff.mp K
                    refine kSd_countOf hP jko_11 (by omega) hz_z7 ?_
                    obtain rfl := Option.some.inj K
                    exact jx_iret (pc := 137) rfl HQ
                  · replace K := (if_neg hc12).symm.trans K
                    refine jx_sw1 (fun hc11 => ?_) (fun hc11 => ?_)
                    · replace K := (if_pos hc11).symm.trans K
                      refine jx_next (pc := 138) (pc' := 139) rfl rfl ?_
                      refine jx_getr2 (pc := 139) rfl jko_1 jr_1_8 ?_
                      refine jx_callv (pc := 142) (o := 79) (rest := []) rfl ⟨by decide, by decide⟩ rfl jko_79 (Nat.le_of_ble_eq_true rfl) ?_
                      obtain ⟨z8, hz_z8, K⟩ := Option.bind_eq_some_iff.mp K
                      refine kPy_mostHeads hP (by omega) hz_z8 ?_
                      obtain rfl := Option.some.inj K
                      exact jx_iret (pc := 145) rfl HQ
                    · replace K := (if_neg hc11).symm.trans K
                      refine jx_sw1 (fun hc10 => ?_) (fun hc10 => ?_)
                      · replace K := (if_pos hc10).symm.trans K
                        refine jx_next (pc := 146) (pc' := 147) rfl rfl ?_
                        refine jx_getr2 (pc := 147) rfl jko_1 jr_1_7 ?_
                        refine jx_callv (pc := 150) (o := 17) (rest := []) rfl ⟨by decide, by decide⟩ rfl jko_17 (Nat.le_of_ble_eq_true rfl) ?_
                        refine kPa_size hP (by omega) rfl ?_
                        obtain rfl := Option.some.inj K
                        exact jx_iret (pc := 153) rfl HQ
                      · replace K := (if_neg hc10).symm.trans K
                        refine jx_sw0 ?_
                        refine jx_next (pc := 154) (pc' := 155) rfl rfl ?_
                        obtain rfl := Option.some.inj K
                        exact jx_iret (pc := 155) rfl HQ
/-- AndGuest.isGuest(I)Z -/
noncomputable def fA_isGuest (p : Nat) (v1 : Int32) (h : jH) : Int32 :=
  (if v1 < 0 then
  (0 : Int32)
  else
  (if v1 < 8 then
  (if v1 < (h.1 p 0) then
  (1 : Int32)
  else
  (0 : Int32))
  else
  (0 : Int32)))
theorem kA_isGuest {X : jX} {dd : Nat} {p d : Nat} {q : Nat → Nat} {Q : Option Value → jS → Prop} {v1 : Int32} {h : jH} (hP : jOK p d q)  (hd : 1 ≤ dd) {z : Int32} (K : fA_isGuest p v1 h = z) (HQ : Q (some (.int z)) (176, jRf p d q, h)) :
    jCa X dd 81 [.ref 1, .int v1] (176, jRf p d q, h) Q := by
  obtain ⟨dd, rfl⟩ : ∃ d9, dd = d9 + 1 := ⟨dd - 1, by omega⟩
  unfold fA_isGuest at K
  refine jCa_of (es := jc_81) (pl := [some (.ref 1), some (.int v1)]) (M := jm_81) rfl rfl rfl rfl ?_
  refine jx_next (pc := 0) (pc' := 1) rfl rfl ?_
  refine jx_iflt (pc := 1) rfl (fun hc1 => ?_) (fun hc1 => ?_)
  · replace K := (if_pos hc1).symm.trans K
    refine jx_next (pc := 28) (pc' := 29) rfl rfl ?_
    obtain rfl := K
    exact jx_zret (pc := 29) rfl (Or.inl rfl) HQ
  · replace K := (if_neg hc1).symm.trans K
    refine jx_next (pc := 4) (pc' := 5) rfl rfl ?_
    refine jx_next (pc := 5) (pc' := 7) rfl rfl ?_
    refine jx_icge (pc := 7) rfl (fun hc2 => ?_) (fun hc2 => ?_)
    · replace K := (if_pos hc2).symm.trans K
      refine jx_next (pc := 10) (pc' := 11) rfl rfl ?_
      refine jx_next (pc := 11) (pc' := 12) rfl rfl ?_
      refine jx_getr2 (pc := 12) rfl jko_1 jr_1_8 ?_
      refine jx_callv (pc := 15) (o := 79) (rest := [.int v1]) rfl ⟨by decide, by decide⟩ rfl jko_79 (Nat.le_of_ble_eq_true rfl) ?_
      refine kPy_plan hP (by omega) rfl ?_
      refine jx_geti (pc := 18) rfl hP.1 ?_
      refine jx_icge (pc := 21) rfl (fun hc4 => ?_) (fun hc4 => ?_)
      · replace K := (if_pos hc4).symm.trans K
        refine jx_next (pc := 24) (pc' := 25) rfl rfl ?_
        refine jx_next (pc := 25) (pc' := 29) rfl rfl ?_
        obtain rfl := K
        exact jx_zret (pc := 29) rfl (Or.inr rfl) HQ
      · replace K := (if_neg hc4).symm.trans K
        refine jx_next (pc := 28) (pc' := 29) rfl rfl ?_
        obtain rfl := K
        exact jx_zret (pc := 29) rfl (Or.inl rfl) HQ
    · replace K := (if_neg hc2).symm.trans K
      refine jx_next (pc := 28) (pc' := 29) rfl rfl ?_
      obtain rfl := K
      exact jx_zret (pc := 29) rfl (Or.inl rfl) HQ
/-- AndGuest$Word.letterOf(II)I -/
noncomputable def fWd_letterOf (v0 : Int32) (v1 : Int32) : Int32 :=
  ((v0 >>> ((5 * v1) &&& 31)) &&& 31 : Int32)
theorem kWd_letterOf {X : jX} {dd : Nat} {p d : Nat} {q : Nat → Nat} {Q : Option Value → jS → Prop} {v0 : Int32} {v1 : Int32} {h : jH}  (hd : 0 ≤ dd) {z : Int32} (K : fWd_letterOf v0 v1 = z) (HQ : Q (some (.int z)) (176, jRf p d q, h)) :
    jCa X dd 82 [.int v0, .int v1] (176, jRf p d q, h) Q := by
  unfold fWd_letterOf at K
  refine jCa_of (es := jc_82) (pl := [some (.int v0), some (.int v1)]) (M := jm_82) rfl rfl rfl rfl ?_
  refine jx_next (pc := 0) (pc' := 1) rfl rfl ?_
  refine jx_next (pc := 1) (pc' := 2) rfl rfl ?_
  refine jx_next (pc := 2) (pc' := 3) rfl rfl ?_
  refine jx_next (pc := 3) (pc' := 4) rfl rfl ?_
  refine jx_next (pc := 4) (pc' := 5) rfl rfl ?_
  refine jx_next (pc := 5) (pc' := 7) rfl rfl ?_
  refine jx_next (pc := 7) (pc' := 8) rfl rfl ?_
  obtain rfl := K
  exact jx_iret (pc := 8) rfl HQ
/-- AndGuest.letter(II)I -/
noncomputable def fA_letter (p : Nat) (v1 : Int32) (v2 : Int32) (h : jH) : Option Int32 :=
  (if (fA_isGuest p v1 h) = 0 then
  some ((-1) : Int32)
  else
  (if v2 < 0 then
  some ((-1) : Int32)
  else
  (if v2 < 6 then
  (if jin v1 8 then
  some ((fWd_letterOf (h.1 (p + 1) v1.toNatClampNeg) v2) : Int32)
  else none)
  else
  some ((-1) : Int32))))
theorem kA_letter {X : jX} {dd : Nat} {p d : Nat} {q : Nat → Nat} {Q : Option Value → jS → Prop} {v1 : Int32} {v2 : Int32} {h : jH} (hP : jOK p d q)  (hd : 2 ≤ dd) {z : Int32} (K : fA_letter p v1 v2 h = some z) (HQ : Q (some (.int z)) (176, jRf p d q, h)) :
    jCa X dd 80 [.ref 1, .int v1, .int v2] (176, jRf p d q, h) Q := by
  obtain ⟨dd, rfl⟩ : ∃ d9, dd = d9 + 1 := ⟨dd - 1, by omega⟩
  unfold fA_letter at K
  refine jCa_of (es := jc_80) (pl := [some (.ref 1), some (.int v1), some (.int v2)]) (M := jm_80) rfl rfl rfl rfl ?_
  refine jx_next (pc := 0) (pc' := 1) rfl rfl ?_
  refine jx_next (pc := 1) (pc' := 2) rfl rfl ?_
  refine jx_callv (pc := 2) (o := 1) (rest := []) rfl ⟨by decide, by decide⟩ rfl jko_1 (Nat.le_of_ble_eq_true rfl) ?_
  refine kA_isGuest hP (by omega) rfl ?_
  refine jx_ifeq (pc := 5) rfl (fun hc2 => ?_) (fun hc2 => ?_)
  · replace K := (if_pos hc2).symm.trans K
    refine jx_next (pc := 18) (pc' := 19) rfl rfl ?_
    obtain rfl := Option.some.inj K
    exact jx_iret (pc := 19) rfl HQ
  · replace K := (if_neg hc2).symm.trans K
    refine jx_next (pc := 8) (pc' := 9) rfl rfl ?_
    refine jx_iflt (pc := 9) rfl (fun hc3 => ?_) (fun hc3 => ?_)
    · replace K := (if_pos hc3).symm.trans K
      refine jx_next (pc := 18) (pc' := 19) rfl rfl ?_
      obtain rfl := Option.some.inj K
      exact jx_iret (pc := 19) rfl HQ
    · replace K := (if_neg hc3).symm.trans K
      refine jx_next (pc := 12) (pc' := 13) rfl rfl ?_
      refine jx_next (pc := 13) (pc' := 15) rfl rfl ?_
      refine jx_iclt (pc := 15) rfl (fun hc4 => ?_) (fun hc4 => ?_)
      · replace K := (if_pos hc4).symm.trans K
        refine jx_next (pc := 20) (pc' := 21) rfl rfl ?_
        refine jx_getr2 (pc := 21) rfl jko_1 jr_1_8 ?_
        refine jx_callv (pc := 24) (o := 79) (rest := []) rfl ⟨by decide, by decide⟩ rfl jko_79 (Nat.le_of_ble_eq_true rfl) ?_
        refine kPy_plan hP (by omega) rfl ?_
        refine jx_getr2 (pc := 27) rfl hP.1 (jrm_10_10 hP.1) ?_
        refine jx_next (pc := 30) (pc' := 31) rfl rfl ?_
        obtain ⟨hg6, K⟩ := jguard K
        refine jx_iald2 (pc := 31) rfl (jkm_10_10 hP.1) (jnm_10_10 hP.1) hg6 ?_
        refine jx_next (pc := 32) (pc' := 33) rfl rfl ?_
        refine jx_calls (pc := 33) rfl (Nat.le_of_ble_eq_true rfl) (Nat.le_of_ble_eq_true rfl) ?_
        refine kWd_letterOf  (by omega) rfl ?_
        obtain rfl := Option.some.inj K
        exact jx_iret (pc := 36) rfl HQ
      · replace K := (if_neg hc4).symm.trans K
        refine jx_next (pc := 18) (pc' := 19) rfl rfl ?_
        obtain rfl := Option.some.inj K
        exact jx_iret (pc := 19) rfl HQ
/-- AndGuest$Party.comesNow(I)I -/
noncomputable def fPy_comesNow (p : Nat) (v1 : Int32) (h : jH) : Option Int32 :=
  (if v1 < 0 then
  some (0 : Int32)
  else
  (if v1 < 8 then
  (if jin v1 8 then
  (if (h.1 (11 + 1) v1.toNatClampNeg) = 1 then
  (if jin v1 8 then
  some (h.1 (p + 2) v1.toNatClampNeg : Int32)
  else none)
  else
  (if (h.1 (11 + 1) v1.toNatClampNeg) = 2 then
  some (10 : Int32)
  else
  (if (h.1 (11 + 1) v1.toNatClampNeg) = 3 then
  some (0 : Int32)
  else
  (if (h.1 (11 + 1) v1.toNatClampNeg) = 4 then
  some (h.1 p 7 : Int32)
  else
  some (0 : Int32)))))
  else none)
  else
  some (0 : Int32)))
theorem kPy_comesNow {X : jX} {dd : Nat} {p d : Nat} {q : Nat → Nat} {Q : Option Value → jS → Prop} {v1 : Int32} {h : jH} (hP : jOK p d q)  (hd : 0 ≤ dd) {z : Int32} (K : fPy_comesNow p v1 h = some z) (HQ : Q (some (.int z)) (176, jRf p d q, h)) :
    jCa X dd 84 [.ref 79, .int v1] (176, jRf p d q, h) Q := by
  unfold fPy_comesNow at K
  refine jCa_of (es := jc_84) (pl := [some (.ref 79), some (.int v1)]) (M := jm_84) rfl rfl rfl rfl ?_
  refine jx_next (pc := 0) (pc' := 1) rfl rfl ?_
  refine jx_iflt (pc := 1) rfl (fun hc1 => ?_) (fun hc1 => ?_)
  · replace K := (if_pos hc1).symm.trans K
    refine jx_next (pc := 10) (pc' := 11) rfl rfl ?_
    obtain rfl := Option.some.inj K
    exact jx_iret (pc := 11) rfl HQ
  · replace K := (if_neg hc1).symm.trans K
    refine jx_next (pc := 4) (pc' := 5) rfl rfl ?_
    refine jx_next (pc := 5) (pc' := 7) rfl rfl ?_
    refine jx_iclt (pc := 7) rfl (fun hc2 => ?_) (fun hc2 => ?_)
    · replace K := (if_pos hc2).symm.trans K
      refine jx_next (pc := 12) (pc' := 13) rfl rfl ?_
      refine jx_getr2 (pc := 13) rfl jko_79 jr_8_0 ?_
      refine jx_getr2 (pc := 16) rfl jko_11 (jrm_6_2 jko_11) ?_
      refine jx_next (pc := 19) (pc' := 20) rfl rfl ?_
      obtain ⟨hg3, K⟩ := jguard K
      refine jx_iald2 (pc := 20) rfl (jkm_6_2 jko_11) (jnm_6_2 jko_11) hg3 ?_
      refine jx_tsw (pc := 21) rfl ?_
      refine jx_sw1 (fun hc8 => ?_) (fun hc8 => ?_)
      · replace K := (if_pos hc8).symm.trans K
        refine jx_next (pc := 52) (pc' := 53) rfl rfl ?_
        refine jx_getr2 (pc := 53) rfl jko_79 jr_8_4 ?_
        refine jx_getr2 (pc := 56) rfl hP.1 (jrm_10_11 hP.1) ?_
        refine jx_next (pc := 59) (pc' := 60) rfl rfl ?_
        obtain ⟨hg4, K⟩ := jguard K
        refine jx_iald2 (pc := 60) rfl (jkm_10_11 hP.1) (jnm_10_11 hP.1) hg4 ?_
        obtain rfl := Option.some.inj K
        exact jx_iret (pc := 61) rfl HQ
      · replace K := (if_neg hc8).symm.trans K
        refine jx_sw1 (fun hc7 => ?_) (fun hc7 => ?_)
        · replace K := (if_pos hc7).symm.trans K
          refine jx_next (pc := 62) (pc' := 64) rfl rfl ?_
          obtain rfl := Option.some.inj K
          exact jx_iret (pc := 64) rfl HQ
        · replace K := (if_neg hc7).symm.trans K
          refine jx_sw1 (fun hc6 => ?_) (fun hc6 => ?_)
          · replace K := (if_pos hc6).symm.trans K
            refine jx_next (pc := 73) (pc' := 74) rfl rfl ?_
            obtain rfl := Option.some.inj K
            exact jx_iret (pc := 74) rfl HQ
          · replace K := (if_neg hc6).symm.trans K
            refine jx_sw1 (fun hc5 => ?_) (fun hc5 => ?_)
            · replace K := (if_pos hc5).symm.trans K
              refine jx_next (pc := 65) (pc' := 66) rfl rfl ?_
              refine jx_getr2 (pc := 66) rfl jko_79 jr_8_4 ?_
              refine jx_geti (pc := 69) rfl hP.1 ?_
              obtain rfl := Option.some.inj K
              exact jx_iret (pc := 72) rfl HQ
            · replace K := (if_neg hc5).symm.trans K
              refine jx_sw0 ?_
              refine jx_next (pc := 73) (pc' := 74) rfl rfl ?_
              obtain rfl := Option.some.inj K
              exact jx_iret (pc := 74) rfl HQ
    · replace K := (if_neg hc2).symm.trans K
      refine jx_next (pc := 10) (pc' := 11) rfl rfl ?_
      obtain rfl := Option.some.inj K
      exact jx_iret (pc := 11) rfl HQ
/-- AndGuest$Standing.behindNow()I -/
noncomputable def fSd_behindNow (o : Nat) (h : jH) : Int32 :=
  (if (h.1 o 1) = (-1) then
  (0 : Int32)
  else
  ((h.1 o 0) - (h.1 o 1) : Int32))
theorem kSd_behindNow {X : jX} {dd : Nat} {p d : Nat} {q : Nat → Nat} {Q : Option Value → jS → Prop} {o : Nat} {h : jH} (hP : jOK p d q) (ho : jcl 176 o = 6) (hd : 0 ≤ dd) {z : Int32} (K : fSd_behindNow o h = z) (HQ : Q (some (.int z)) (176, jRf p d q, h)) :
    jCa X dd 87 [.ref o] (176, jRf p d q, h) Q := by
  unfold fSd_behindNow at K
  refine jCa_of (es := jc_87) (pl := [some (.ref o)]) (M := jm_87) rfl rfl rfl rfl ?_
  refine jx_next (pc := 0) (pc' := 1) rfl rfl ?_
  refine jx_geti (pc := 1) rfl ho ?_
  refine jx_next (pc := 4) (pc' := 5) rfl rfl ?_
  refine jx_icne (pc := 5) rfl (fun hc1 => ?_) (fun hc1 => ?_)
  · replace K := (if_pos hc1).symm.trans K
    refine jx_next (pc := 8) (pc' := 9) rfl rfl ?_
    refine jx_next (pc := 9) (pc' := 21) rfl rfl ?_
    obtain rfl := K
    exact jx_iret (pc := 21) rfl HQ
  · replace K := (if_neg hc1).symm.trans K
    refine jx_next (pc := 12) (pc' := 13) rfl rfl ?_
    refine jx_geti (pc := 13) rfl ho ?_
    refine jx_next (pc := 16) (pc' := 17) rfl rfl ?_
    refine jx_geti (pc := 17) rfl ho ?_
    refine jx_next (pc := 20) (pc' := 21) rfl rfl ?_
    obtain rfl := K
    exact jx_iret (pc := 21) rfl HQ
noncomputable def fPy_fillFacts_j66 (p : Nat) (v1 : Int32) (v2 : Int32) (s0 : Nat) (s1 : Int32) (s2 : Int32) (h : jH) : Option jH :=
  (if jin s1 (jsh s0).2 then
  (if jin v1 8 then
  (if jin 3 7 then
  (if jin v1 8 then
  (if jin 4 7 then
  (if jin v1 8 then
  (if jin 5 7 then
  (if jin 6 7 then
  some (jhI (jhI (jhI (jhI (jhI h s0 s1.toNatClampNeg s2) 82 (3 : Int32).toNatClampNeg ((jhI h s0 s1.toNatClampNeg s2).1 (p + 3) v1.toNatClampNeg)) 82 (4 : Int32).toNatClampNeg ((jhI (jhI h s0 s1.toNatClampNeg s2) 82 (3 : Int32).toNatClampNeg ((jhI h s0 s1.toNatClampNeg s2).1 (p + 3) v1.toNatClampNeg)).1 (p + 5) v1.toNatClampNeg)) 82 (5 : Int32).toNatClampNeg ((jhI (jhI (jhI h s0 s1.toNatClampNeg s2) 82 (3 : Int32).toNatClampNeg ((jhI h s0 s1.toNatClampNeg s2).1 (p + 3) v1.toNatClampNeg)) 82 (4 : Int32).toNatClampNeg ((jhI (jhI h s0 s1.toNatClampNeg s2) 82 (3 : Int32).toNatClampNeg ((jhI h s0 s1.toNatClampNeg s2).1 (p + 3) v1.toNatClampNeg)).1 (p + 5) v1.toNatClampNeg)).1 (p + 4) v1.toNatClampNeg)) 82 (6 : Int32).toNatClampNeg v2)
  else none)
  else none)
  else none)
  else none)
  else none)
  else none)
  else none)
  else none)
theorem kPy_fillFacts_j66 {X : jX} {dd : Nat} {p d : Nat} {q : Nat → Nat} {Q : Option Value → jS → Prop} {v1 : Int32} {v2 : Int32} {s0 : Nat} {s1 : Int32} {s2 : Int32} {h : jH} (hP : jOK p d q) (hs0 : jcl 176 s0 = 20) (hd : 1 ≤ (dd + 1)) {z : jH} (K : fPy_fillFacts_j66 p v1 v2 s0 s1 s2 h = some z) (HQ : Q none (176, jRf p d q, z)) :
    jEx X (dd + 1) jc_89 66 [some (.ref 79), some (.int v1), some (.int v2)] [.int s2, .int s1, .ref s0] (176, jRf p d q, h) Q := by
  unfold fPy_fillFacts_j66 at K
  obtain ⟨hg9, K⟩ := jguard K
  refine jx_iast2 (pc := 66) rfl hs0 rfl hg9 ?_
  refine jx_next (pc := 67) (pc' := 68) rfl rfl ?_
  refine jx_getr2 (pc := 68) rfl jko_79 jr_8_2 ?_
  refine jx_next (pc := 71) (pc' := 72) rfl rfl ?_
  refine jx_next (pc := 72) (pc' := 73) rfl rfl ?_
  refine jx_getr2 (pc := 73) rfl jko_79 jr_8_4 ?_
  refine jx_getr2 (pc := 76) rfl hP.1 (jrm_10_12 hP.1) ?_
  refine jx_next (pc := 79) (pc' := 80) rfl rfl ?_
  obtain ⟨hg10, K⟩ := jguard K
  refine jx_iald2 (pc := 80) rfl (jkm_10_12 hP.1) (jnm_10_12 hP.1) hg10 ?_
  obtain ⟨hg11, K⟩ := jguard K
  refine jx_iast2 (pc := 81) rfl jko_82 jno_82 hg11 ?_
  refine jx_next (pc := 82) (pc' := 83) rfl rfl ?_
  refine jx_getr2 (pc := 83) rfl jko_79 jr_8_2 ?_
  refine jx_next (pc := 86) (pc' := 87) rfl rfl ?_
  refine jx_next (pc := 87) (pc' := 88) rfl rfl ?_
  refine jx_getr2 (pc := 88) rfl jko_79 jr_8_4 ?_
  refine jx_getr2 (pc := 91) rfl hP.1 (jrm_10_14 hP.1) ?_
  refine jx_next (pc := 94) (pc' := 95) rfl rfl ?_
  obtain ⟨hg12, K⟩ := jguard K
  refine jx_iald2 (pc := 95) rfl (jkm_10_14 hP.1) (jnm_10_14 hP.1) hg12 ?_
  obtain ⟨hg13, K⟩ := jguard K
  refine jx_iast2 (pc := 96) rfl jko_82 jno_82 hg13 ?_
  refine jx_next (pc := 97) (pc' := 98) rfl rfl ?_
  refine jx_getr2 (pc := 98) rfl jko_79 jr_8_2 ?_
  refine jx_next (pc := 101) (pc' := 102) rfl rfl ?_
  refine jx_next (pc := 102) (pc' := 103) rfl rfl ?_
  refine jx_getr2 (pc := 103) rfl jko_79 jr_8_4 ?_
  refine jx_getr2 (pc := 106) rfl hP.1 (jrm_10_13 hP.1) ?_
  refine jx_next (pc := 109) (pc' := 110) rfl rfl ?_
  obtain ⟨hg14, K⟩ := jguard K
  refine jx_iald2 (pc := 110) rfl (jkm_10_13 hP.1) (jnm_10_13 hP.1) hg14 ?_
  obtain ⟨hg15, K⟩ := jguard K
  refine jx_iast2 (pc := 111) rfl jko_82 jno_82 hg15 ?_
  refine jx_next (pc := 112) (pc' := 113) rfl rfl ?_
  refine jx_getr2 (pc := 113) rfl jko_79 jr_8_2 ?_
  refine jx_next (pc := 116) (pc' := 118) rfl rfl ?_
  refine jx_next (pc := 118) (pc' := 119) rfl rfl ?_
  obtain ⟨hg16, K⟩ := jguard K
  refine jx_iast2 (pc := 119) rfl jko_82 jno_82 hg16 ?_
  obtain rfl := Option.some.inj K
  exact jx_ret (pc := 120) rfl rfl HQ
/-- AndGuest$Party.fillFacts(II)V -/
noncomputable def fPy_fillFacts (p : Nat) (v1 : Int32) (v2 : Int32) (h : jH) : Option jH :=
  (if v1 < 0 then
  some h
  else
  (if v1 < 8 then
  (if jin 0 7 then
  (if jin v1 8 then
  (if jin 1 7 then
  (Option.bind (fSd_isAsked 11 v1 (jhI (jhI h 82 (0 : Int32).toNatClampNeg v1) 82 (1 : Int32).toNatClampNeg ((jhI h 82 (0 : Int32).toNatClampNeg v1).1 (11 + 1) v1.toNatClampNeg))) (fun (z6 : Int32) =>
  (if z6 = 0 then
  (if jin v1 8 then
  fPy_fillFacts_j66  p v1 v2 82 2 ((jhI (jhI h 82 (0 : Int32).toNatClampNeg v1) 82 (1 : Int32).toNatClampNeg ((jhI h 82 (0 : Int32).toNatClampNeg v1).1 (11 + 1) v1.toNatClampNeg)).1 (p + 2) v1.toNatClampNeg) (jhI (jhI h 82 (0 : Int32).toNatClampNeg v1) 82 (1 : Int32).toNatClampNeg ((jhI h 82 (0 : Int32).toNatClampNeg v1).1 (11 + 1) v1.toNatClampNeg))
  else none)
  else
  (Option.bind (fPy_comesNow p v1 (jhI (jhI h 82 (0 : Int32).toNatClampNeg v1) 82 (1 : Int32).toNatClampNeg ((jhI h 82 (0 : Int32).toNatClampNeg v1).1 (11 + 1) v1.toNatClampNeg))) (fun (z17 : Int32) =>
  fPy_fillFacts_j66  p v1 v2 82 2 z17 (jhI (jhI h 82 (0 : Int32).toNatClampNeg v1) 82 (1 : Int32).toNatClampNeg ((jhI h 82 (0 : Int32).toNatClampNeg v1).1 (11 + 1) v1.toNatClampNeg)))))))
  else none)
  else none)
  else none)
  else
  some h))
theorem kPy_fillFacts {X : jX} {dd : Nat} {p d : Nat} {q : Nat → Nat} {Q : Option Value → jS → Prop} {v1 : Int32} {v2 : Int32} {h : jH} (hP : jOK p d q)  (hd : 1 ≤ dd) {z : jH} (K : fPy_fillFacts p v1 v2 h = some z) (HQ : Q none (176, jRf p d q, z)) :
    jCa X dd 89 [.ref 79, .int v1, .int v2] (176, jRf p d q, h) Q := by
  obtain ⟨dd, rfl⟩ : ∃ d9, dd = d9 + 1 := ⟨dd - 1, by omega⟩
  unfold fPy_fillFacts at K
  refine jCa_of (es := jc_89) (pl := [some (.ref 79), some (.int v1), some (.int v2)]) (M := jm_89) rfl rfl rfl rfl ?_
  refine jx_next (pc := 0) (pc' := 1) rfl rfl ?_
  refine jx_iflt (pc := 1) rfl (fun hc1 => ?_) (fun hc1 => ?_)
  · replace K := (if_pos hc1).symm.trans K
    obtain rfl := Option.some.inj K
    exact jx_ret (pc := 10) rfl rfl HQ
  · replace K := (if_neg hc1).symm.trans K
    refine jx_next (pc := 4) (pc' := 5) rfl rfl ?_
    refine jx_next (pc := 5) (pc' := 7) rfl rfl ?_
    refine jx_iclt (pc := 7) rfl (fun hc2 => ?_) (fun hc2 => ?_)
    · replace K := (if_pos hc2).symm.trans K
      refine jx_next (pc := 11) (pc' := 12) rfl rfl ?_
      refine jx_getr2 (pc := 12) rfl jko_79 jr_8_2 ?_
      refine jx_next (pc := 15) (pc' := 16) rfl rfl ?_
      refine jx_next (pc := 16) (pc' := 17) rfl rfl ?_
      obtain ⟨hg3, K⟩ := jguard K
      refine jx_iast2 (pc := 17) rfl jko_82 jno_82 hg3 ?_
      refine jx_next (pc := 18) (pc' := 19) rfl rfl ?_
      refine jx_getr2 (pc := 19) rfl jko_79 jr_8_2 ?_
      refine jx_next (pc := 22) (pc' := 23) rfl rfl ?_
      refine jx_next (pc := 23) (pc' := 24) rfl rfl ?_
      refine jx_getr2 (pc := 24) rfl jko_79 jr_8_0 ?_
      refine jx_getr2 (pc := 27) rfl jko_11 (jrm_6_2 jko_11) ?_
      refine jx_next (pc := 30) (pc' := 31) rfl rfl ?_
      obtain ⟨hg4, K⟩ := jguard K
      refine jx_iald2 (pc := 31) rfl (jkm_6_2 jko_11) (jnm_6_2 jko_11) hg4 ?_
      obtain ⟨hg5, K⟩ := jguard K
      refine jx_iast2 (pc := 32) rfl jko_82 jno_82 hg5 ?_
      refine jx_next (pc := 33) (pc' := 34) rfl rfl ?_
      refine jx_getr2 (pc := 34) rfl jko_79 jr_8_2 ?_
      refine jx_next (pc := 37) (pc' := 38) rfl rfl ?_
      refine jx_next (pc := 38) (pc' := 39) rfl rfl ?_
      refine jx_getr2 (pc := 39) rfl jko_79 jr_8_0 ?_
      refine jx_next (pc := 42) (pc' := 43) rfl rfl ?_
      refine jx_callv (pc := 43) (o := 11) (rest := [.int 2, .ref 82]) rfl ⟨by decide, by decide⟩ rfl jko_11 (Nat.le_of_ble_eq_true rfl) ?_
      obtain ⟨z6, hz_z6, K⟩ := Option.bind_eq_some_iff.mp K
      refine kSd_isAsked hP jko_11 (by omega) hz_z6 ?_
      refine jx_ifeq (pc := 46) rfl (fun hc7 => ?_) (fun hc7 => ?_)
      · replace K := (if_pos hc7).symm.trans K
        refine jx_next (pc := 57) (pc' := 58) rfl rfl ?_
        refine jx_getr2 (pc := 58) rfl jko_79 jr_8_4 ?_
        refine jx_getr2 (pc := 61) rfl hP.1 (jrm_10_11 hP.1) ?_
        refine jx_next (pc := 64) (pc' := 65) rfl rfl ?_
        obtain ⟨hg8, K⟩ := jguard K
        refine jx_iald2 (pc := 65) rfl (jkm_10_11 hP.1) (jnm_10_11 hP.1) hg8 ?_
        refine jx_le (pl' := [some (.ref 79), some (.int v1), some (.int v2)]) (jle_v (jle_v (jle_v jle_nil))) ?_
        exact kPy_fillFacts_j66 hP jko_82 hd K HQ
      · replace K := (if_neg hc7).symm.trans K
        refine jx_next (pc := 49) (pc' := 50) rfl rfl ?_
        refine jx_next (pc := 50) (pc' := 51) rfl rfl ?_
        refine jx_callv (pc := 51) (o := 79) (rest := [.int 2, .ref 82]) rfl ⟨by decide, by decide⟩ rfl jko_79 (Nat.le_of_ble_eq_true rfl) ?_
        obtain ⟨z17, hz_z17, K⟩ := Option.bind_eq_some_iff.mp K
        refine kPy_comesNow hP (by omega) hz_z17 ?_
        refine jx_next (pc := 54) (pc' := 66) rfl rfl ?_
        refine jx_le (pl' := [some (.ref 79), some (.int v1), some (.int v2)]) (jle_v (jle_v (jle_v jle_nil))) ?_
        exact kPy_fillFacts_j66 hP jko_82 hd K HQ
    · replace K := (if_neg hc2).symm.trans K
      obtain rfl := Option.some.inj K
      exact jx_ret (pc := 10) rfl rfl HQ
/-- AndGuest$Formula.factAt([II)I -/
noncomputable def fFo_factAt (v0 : Nat) (v1 : Int32) (h : jH) : Option Int32 :=
  (if v1 < 0 then
  some (0 : Int32)
  else
  (if v1 < (Int32.ofNat (jsh v0).2) then
  (if jin v1 (jsh v0).2 then
  some (h.1 v0 v1.toNatClampNeg : Int32)
  else none)
  else
  some (0 : Int32)))
theorem kFo_factAt {X : jX} {dd : Nat} {p d : Nat} {q : Nat → Nat} {Q : Option Value → jS → Prop} {v0 : Nat} {v1 : Int32} {h : jH} (hP : jOK p d q) (hv0 : jcl 176 v0 = 20) (hd : 0 ≤ dd) {z : Int32} (K : fFo_factAt v0 v1 h = some z) (HQ : Q (some (.int z)) (176, jRf p d q, h)) :
    jCa X dd 91 [.ref v0, .int v1] (176, jRf p d q, h) Q := by
  unfold fFo_factAt at K
  refine jCa_of (es := jc_91) (pl := [some (.ref v0), some (.int v1)]) (M := jm_91) rfl rfl rfl rfl ?_
  refine jx_next (pc := 0) (pc' := 1) rfl rfl ?_
  refine jx_iflt (pc := 1) rfl (fun hc1 => ?_) (fun hc1 => ?_)
  · replace K := (if_pos hc1).symm.trans K
    refine jx_next (pc := 16) (pc' := 17) rfl rfl ?_
    obtain rfl := Option.some.inj K
    exact jx_iret (pc := 17) rfl HQ
  · replace K := (if_neg hc1).symm.trans K
    refine jx_next (pc := 4) (pc' := 5) rfl rfl ?_
    refine jx_next (pc := 5) (pc' := 6) rfl rfl ?_
    refine jx_alen (pc := 6) rfl hv0 ⟨by decide, by decide⟩ ?_
    refine jx_icge (pc := 7) rfl (fun hc2 => ?_) (fun hc2 => ?_)
    · replace K := (if_pos hc2).symm.trans K
      refine jx_next (pc := 10) (pc' := 11) rfl rfl ?_
      refine jx_next (pc := 11) (pc' := 12) rfl rfl ?_
      obtain ⟨hg3, K⟩ := jguard K
      refine jx_iald2 (pc := 12) rfl hv0 rfl hg3 ?_
      refine jx_next (pc := 13) (pc' := 17) rfl rfl ?_
      obtain rfl := Option.some.inj K
      exact jx_iret (pc := 17) rfl HQ
    · replace K := (if_neg hc2).symm.trans K
      refine jx_next (pc := 16) (pc' := 17) rfl rfl ?_
      obtain rfl := Option.some.inj K
      exact jx_iret (pc := 17) rfl HQ
noncomputable def fFo_turned_j31 (v1 : Int32) (v2 : Nat) (v3 : Nat) (s0 : Int32) (h : jH) : Option Int32 :=
  (if s0 = 0 then
  some (0 : Int32)
  else
  (if jin v1 (jsh v3).2 then
  (Option.bind (fFo_factAt v2 0 h) (fun (z6 : Int32) =>
  some (((h.1 v3 v1.toNatClampNeg) >>> (z6 &&& 31)) &&& 1 : Int32)))
  else none))
theorem kFo_turned_j31 {X : jX} {dd : Nat} {p d : Nat} {q : Nat → Nat} {Q : Option Value → jS → Prop} {v1 : Int32} {v2 : Nat} {v3 : Nat} {s0 : Int32} {h : jH} (hP : jOK p d q) (hv2 : jcl 176 v2 = 20) (hv3 : jcl 176 v3 = 20) (hd : 1 ≤ (dd + 1)) {z : Int32} (K : fFo_turned_j31 v1 v2 v3 s0 h = some z) (HQ : Q (some (.int z)) (176, jRf p d q, h)) :
    jEx X (dd + 1) jc_92 31 [none, some (.int v1), some (.ref v2), some (.ref v3), none] [.int s0] (176, jRf p d q, h) Q := by
  unfold fFo_turned_j31 at K
  refine jx_sti (pc := 31) (p2 := [none, some (.int v1), some (.ref v2), some (.ref v3), some (.int s0)]) rfl (jlt rfl) rfl ?_
  refine jx_next (pc := 33) (pc' := 35) rfl rfl ?_
  refine jx_ifeq (pc := 35) rfl (fun hc4 => ?_) (fun hc4 => ?_)
  · replace K := (if_pos hc4).symm.trans K
    refine jx_next (pc := 52) (pc' := 53) rfl rfl ?_
    obtain rfl := Option.some.inj K
    exact jx_iret (pc := 53) rfl HQ
  · replace K := (if_neg hc4).symm.trans K
    refine jx_next (pc := 38) (pc' := 39) rfl rfl ?_
    refine jx_next (pc := 39) (pc' := 40) rfl rfl ?_
    obtain ⟨hg5, K⟩ := jguard K
    refine jx_iald2 (pc := 40) rfl hv3 rfl hg5 ?_
    refine jx_next (pc := 41) (pc' := 42) rfl rfl ?_
    refine jx_next (pc := 42) (pc' := 43) rfl rfl ?_
    refine jx_calls (pc := 43) rfl (Nat.le_of_ble_eq_true rfl) (Nat.le_of_ble_eq_true rfl) ?_
    obtain ⟨z6, hz_z6, K⟩ := Option.bind_eq_some_iff.mp K
    refine kFo_factAt hP hv2 (by omega) hz_z6 ?_
    refine jx_next (pc := 46) (pc' := 47) rfl rfl ?_
    refine jx_next (pc := 47) (pc' := 48) rfl rfl ?_
    refine jx_next (pc := 48) (pc' := 49) rfl rfl ?_
    refine jx_next (pc := 49) (pc' := 53) rfl rfl ?_
    obtain rfl := Option.some.inj K
    exact jx_iret (pc := 53) rfl HQ
noncomputable def fFo_turned_j30 (v1 : Int32) (v2 : Nat) (v3 : Nat) (h : jH) : Option Int32 :=
  fFo_turned_j31  v1 v2 v3 0 h
theorem kFo_turned_j30 {X : jX} {dd : Nat} {p d : Nat} {q : Nat → Nat} {Q : Option Value → jS → Prop} {v1 : Int32} {v2 : Nat} {v3 : Nat} {h : jH} (hP : jOK p d q) (hv2 : jcl 176 v2 = 20) (hv3 : jcl 176 v3 = 20) (hd : 1 ≤ (dd + 1)) {z : Int32} (K : fFo_turned_j30 v1 v2 v3 h = some z) (HQ : Q (some (.int z)) (176, jRf p d q, h)) :
    jEx X (dd + 1) jc_92 30 [none, some (.int v1), some (.ref v2), some (.ref v3), none] [] (176, jRf p d q, h) Q := by
  unfold fFo_turned_j30 at K
  refine jx_next (pc := 30) (pc' := 31) rfl rfl ?_
  refine jx_le (pl' := [none, some (.int v1), some (.ref v2), some (.ref v3), none]) (jle_n (jle_v (jle_v (jle_v (jle_n jle_nil))))) ?_
  exact kFo_turned_j31 hP hv2 hv3 hd K HQ
/-- AndGuest$Formula.turned(II[I[I)I -/
noncomputable def fFo_turned (v0 : Int32) (v1 : Int32) (v2 : Nat) (v3 : Nat) (h : jH) : Option Int32 :=
  (if v0 = (-22) then
  (if v1 = 0 then
  some (1 : Int32)
  else
  some (0 : Int32))
  else
  (if v1 < 0 then
  fFo_turned_j30  v1 v2 v3 h
  else
  (if v1 < (Int32.ofNat (jsh v3).2) then
  fFo_turned_j31  v1 v2 v3 1 h
  else
  fFo_turned_j30  v1 v2 v3 h)))
theorem kFo_turned {X : jX} {dd : Nat} {p d : Nat} {q : Nat → Nat} {Q : Option Value → jS → Prop} {v0 : Int32} {v1 : Int32} {v2 : Nat} {v3 : Nat} {h : jH} (hP : jOK p d q) (hv2 : jcl 176 v2 = 20) (hv3 : jcl 176 v3 = 20) (hd : 1 ≤ dd) {z : Int32} (K : fFo_turned v0 v1 v2 v3 h = some z) (HQ : Q (some (.int z)) (176, jRf p d q, h)) :
    jCa X dd 92 [.int v0, .int v1, .ref v2, .ref v3] (176, jRf p d q, h) Q := by
  obtain ⟨dd, rfl⟩ : ∃ d9, dd = d9 + 1 := ⟨dd - 1, by omega⟩
  unfold fFo_turned at K
  refine jCa_of (es := jc_92) (pl := [some (.int v0), some (.int v1), some (.ref v2), some (.ref v3), none]) (M := jm_92) rfl rfl rfl rfl ?_
  refine jx_next (pc := 0) (pc' := 1) rfl rfl ?_
  refine jx_next (pc := 1) (pc' := 3) rfl rfl ?_
  refine jx_icne (pc := 3) rfl (fun hc1 => ?_) (fun hc1 => ?_)
  · replace K := (if_pos hc1).symm.trans K
    refine jx_next (pc := 6) (pc' := 7) rfl rfl ?_
    refine jx_ifne (pc := 7) rfl (fun hc2 => ?_) (fun hc2 => ?_)
    · replace K := (if_pos hc2).symm.trans K
      refine jx_next (pc := 10) (pc' := 11) rfl rfl ?_
      refine jx_next (pc := 11) (pc' := 15) rfl rfl ?_
      obtain rfl := Option.some.inj K
      exact jx_iret (pc := 15) rfl HQ
    · replace K := (if_neg hc2).symm.trans K
      refine jx_next (pc := 14) (pc' := 15) rfl rfl ?_
      obtain rfl := Option.some.inj K
      exact jx_iret (pc := 15) rfl HQ
  · replace K := (if_neg hc1).symm.trans K
    refine jx_next (pc := 16) (pc' := 17) rfl rfl ?_
    refine jx_iflt (pc := 17) rfl (fun hc3 => ?_) (fun hc3 => ?_)
    · replace K := (if_pos hc3).symm.trans K
      refine jx_le (pl' := [none, some (.int v1), some (.ref v2), some (.ref v3), none]) (jle_n (jle_v (jle_v (jle_v (jle_n jle_nil))))) ?_
      exact kFo_turned_j30 hP hv2 hv3 hd K HQ
    · replace K := (if_neg hc3).symm.trans K
      refine jx_next (pc := 20) (pc' := 21) rfl rfl ?_
      refine jx_next (pc := 21) (pc' := 22) rfl rfl ?_
      refine jx_alen (pc := 22) rfl hv3 ⟨by decide, by decide⟩ ?_
      refine jx_icge (pc := 23) rfl (fun hc7 => ?_) (fun hc7 => ?_)
      · replace K := (if_pos hc7).symm.trans K
        refine jx_next (pc := 26) (pc' := 27) rfl rfl ?_
        refine jx_next (pc := 27) (pc' := 31) rfl rfl ?_
        refine jx_le (pl' := [none, some (.int v1), some (.ref v2), some (.ref v3), none]) (jle_n (jle_v (jle_v (jle_v (jle_n jle_nil))))) ?_
        exact kFo_turned_j31 hP hv2 hv3 hd K HQ
      · replace K := (if_neg hc7).symm.trans K
        refine jx_le (pl' := [none, some (.int v1), some (.ref v2), some (.ref v3), none]) (jle_n (jle_v (jle_v (jle_v (jle_n jle_nil))))) ?_
        exact kFo_turned_j30 hP hv2 hv3 hd K HQ
/-- java/lang/Math.min(JJ)J -/
noncomputable def fMt_minJ (v0 : Int64) (v2 : Int64) : Int64 :=
  (if v2 < v0 then
  (v2 : Int64)
  else
  (v0 : Int64))
theorem kMt_minJ {X : jX} {dd : Nat} {p d : Nat} {q : Nat → Nat} {Q : Option Value → jS → Prop} {v0 : Int64} {v2 : Int64} {h : jH}  (hd : 0 ≤ dd) {z : Int64} (K : fMt_minJ v0 v2 = z) (HQ : Q (some (.long z)) (176, jRf p d q, h)) :
    jCa X dd 95 [.long v0, .long v2] (176, jRf p d q, h) Q := by
  unfold fMt_minJ at K
  refine jCa_of (es := jc_95) (pl := [some (.long v0), none, some (.long v2), none]) (M := jm_95) rfl rfl rfl rfl ?_
  refine jx_next (pc := 0) (pc' := 1) rfl rfl ?_
  refine jx_next (pc := 1) (pc' := 2) rfl rfl ?_
  refine jx_lcgt (pc := 2) rfl rfl (fun hc1 => ?_) (fun hc1 => ?_)
  · replace K := (if_pos hc1).symm.trans K
    refine jx_next (pc := 10) (pc' := 11) rfl rfl ?_
    obtain rfl := K
    exact jx_ret (pc := 11) rfl rfl HQ
  · replace K := (if_neg hc1).symm.trans K
    refine jx_next (pc := 6) (pc' := 7) rfl rfl ?_
    refine jx_next (pc := 7) (pc' := 11) rfl rfl ?_
    obtain rfl := K
    exact jx_ret (pc := 11) rfl rfl HQ
/-- java/lang/Math.max(JJ)J -/
noncomputable def fMt_maxJ (v0 : Int64) (v2 : Int64) : Int64 :=
  (if v0 < v2 then
  (v2 : Int64)
  else
  (v0 : Int64))
theorem kMt_maxJ {X : jX} {dd : Nat} {p d : Nat} {q : Nat → Nat} {Q : Option Value → jS → Prop} {v0 : Int64} {v2 : Int64} {h : jH}  (hd : 0 ≤ dd) {z : Int64} (K : fMt_maxJ v0 v2 = z) (HQ : Q (some (.long z)) (176, jRf p d q, h)) :
    jCa X dd 96 [.long v0, .long v2] (176, jRf p d q, h) Q := by
  unfold fMt_maxJ at K
  refine jCa_of (es := jc_96) (pl := [some (.long v0), none, some (.long v2), none]) (M := jm_96) rfl rfl rfl rfl ?_
  refine jx_next (pc := 0) (pc' := 1) rfl rfl ?_
  refine jx_next (pc := 1) (pc' := 2) rfl rfl ?_
  refine jx_lclt (pc := 2) rfl rfl (fun hc1 => ?_) (fun hc1 => ?_)
  · replace K := (if_pos hc1).symm.trans K
    refine jx_next (pc := 10) (pc' := 11) rfl rfl ?_
    obtain rfl := K
    exact jx_ret (pc := 11) rfl rfl HQ
  · replace K := (if_neg hc1).symm.trans K
    refine jx_next (pc := 6) (pc' := 7) rfl rfl ?_
    refine jx_next (pc := 7) (pc' := 11) rfl rfl ?_
    obtain rfl := K
    exact jx_ret (pc := 11) rfl rfl HQ
/-- AndGuest$Formula.limited(J)I -/
noncomputable def fFo_limited (v0 : Int64) : Int32 :=
  ((fMt_maxJ (-1000000) (fMt_minJ 1000000 v0)).toInt32 : Int32)
theorem kFo_limited {X : jX} {dd : Nat} {p d : Nat} {q : Nat → Nat} {Q : Option Value → jS → Prop} {v0 : Int64} {h : jH}  (hd : 1 ≤ dd) {z : Int32} (K : fFo_limited v0 = z) (HQ : Q (some (.int z)) (176, jRf p d q, h)) :
    jCa X dd 94 [.long v0] (176, jRf p d q, h) Q := by
  obtain ⟨dd, rfl⟩ : ∃ d9, dd = d9 + 1 := ⟨dd - 1, by omega⟩
  unfold fFo_limited at K
  refine jCa_of (es := jc_94) (pl := [some (.long v0), none]) (M := jm_94) rfl rfl rfl rfl ?_
  refine jx_next (pc := 0) (pc' := 3) rfl rfl ?_
  refine jx_next (pc := 3) (pc' := 6) rfl rfl ?_
  refine jx_next (pc := 6) (pc' := 7) rfl rfl ?_
  refine jx_calls (pc := 7) rfl (Nat.le_of_ble_eq_true rfl) (Nat.le_of_ble_eq_true rfl) ?_
  refine kMt_minJ  (by omega) rfl ?_
  refine jx_calls (pc := 10) rfl (Nat.le_of_ble_eq_true rfl) (Nat.le_of_ble_eq_true rfl) ?_
  refine kMt_maxJ  (by omega) rfl ?_
  refine jx_next (pc := 13) (pc' := 14) rfl rfl ?_
  obtain rfl := K
  exact jx_iret (pc := 14) rfl HQ
/-- java/lang/Math.floorDiv(II)I -/
noncomputable def fMt_floorDiv (v0 : Int32) (v1 : Int32) : Option Int32 :=
  (if ¬ v1 = 0 then
  (if (v0 ^^^ v1) < 0 then
  (if ((v0 / v1) * v1) = v0 then
  some (v0 / v1 : Int32)
  else
  some ((v0 / v1) - 1 : Int32))
  else
  some (v0 / v1 : Int32))
  else none)
theorem kMt_floorDiv {X : jX} {dd : Nat} {p d : Nat} {q : Nat → Nat} {Q : Option Value → jS → Prop} {v0 : Int32} {v1 : Int32} {h : jH}  (hd : 0 ≤ dd) {z : Int32} (K : fMt_floorDiv v0 v1 = some z) (HQ : Q (some (.int z)) (176, jRf p d q, h)) :
    jCa X dd 97 [.int v0, .int v1] (176, jRf p d q, h) Q := by
  unfold fMt_floorDiv at K
  refine jCa_of (es := jc_97) (pl := [some (.int v0), some (.int v1), none]) (M := jm_97) rfl rfl rfl rfl ?_
  refine jx_next (pc := 0) (pc' := 1) rfl rfl ?_
  refine jx_next (pc := 1) (pc' := 2) rfl rfl ?_
  obtain ⟨hg, K⟩ := jguard K
  refine jx_idiv (pc := 2) rfl hg ?_
  refine jx_stin (pc := 3) (p2 := [some (.int v0), some (.int v1), some (.int (v0 / v1))]) rfl (jlt rfl) rfl ?_
  refine jx_next (pc := 4) (pc' := 5) rfl rfl ?_
  refine jx_next (pc := 5) (pc' := 6) rfl rfl ?_
  refine jx_next (pc := 6) (pc' := 7) rfl rfl ?_
  refine jx_ifge (pc := 7) rfl (fun hc1 => ?_) (fun hc1 => ?_)
  · replace K := (if_pos hc1).symm.trans K
    refine jx_next (pc := 10) (pc' := 11) rfl rfl ?_
    refine jx_next (pc := 11) (pc' := 12) rfl rfl ?_
    refine jx_next (pc := 12) (pc' := 13) rfl rfl ?_
    refine jx_next (pc := 13) (pc' := 14) rfl rfl ?_
    refine jx_iceq (pc := 14) rfl (fun hc2 => ?_) (fun hc2 => ?_)
    · replace K := (if_pos hc2).symm.trans K
      refine jx_next (pc := 21) (pc' := 22) rfl rfl ?_
      obtain rfl := Option.some.inj K
      exact jx_iret (pc := 22) rfl HQ
    · replace K := (if_neg hc2).symm.trans K
      refine jx_next (pc := 17) (pc' := 18) rfl rfl ?_
      refine jx_next (pc := 18) (pc' := 19) rfl rfl ?_
      refine jx_next (pc := 19) (pc' := 20) rfl rfl ?_
      obtain rfl := Option.some.inj K
      exact jx_iret (pc := 20) rfl HQ
  · replace K := (if_neg hc1).symm.trans K
    refine jx_next (pc := 21) (pc' := 22) rfl rfl ?_
    obtain rfl := Option.some.inj K
    exact jx_iret (pc := 22) rfl HQ
/-- AndGuest$Formula.joined(III)I -/
noncomputable def fFo_joined (v0 : Int32) (v1 : Int32) (v2 : Int32) : Option Int32 :=
  (if v0 = (-21) then
  some (v1 ||| v2 : Int32)
  else
  (if v0 = (-20) then
  some (v1 &&& v2 : Int32)
  else
  (if v0 = (-19) then
  (if v1 = v2 then
  some (1 : Int32)
  else
  some (0 : Int32))
  else
  (if v0 = (-18) then
  (if v2 < v1 then
  some (1 : Int32)
  else
  some (0 : Int32))
  else
  (if v0 = (-17) then
  (if v1 < v2 then
  some (1 : Int32)
  else
  some (0 : Int32))
  else
  (if v0 = (-16) then
  some ((fMt_max v1 v2) : Int32)
  else
  (if v0 = (-15) then
  some ((fMt_min v1 v2) : Int32)
  else
  (if v0 = (-14) then
  (if v2 = 0 then
  some (0 : Int32)
  else
  (Option.bind (fMt_floorDiv v1 v2) (fun (z7 : Int32) =>
  some (z7 : Int32))))
  else
  (if v0 = (-13) then
  some ((fFo_limited (v1.toInt64 * v2.toInt64)) : Int32)
  else
  (if v0 = (-12) then
  some ((fFo_limited (v1.toInt64 - v2.toInt64)) : Int32)
  else
  (if v0 = (-11) then
  some ((fFo_limited (v1.toInt64 + v2.toInt64)) : Int32)
  else
  some (0 : Int32))))))))))))
theorem kFo_joined {X : jX} {dd : Nat} {p d : Nat} {q : Nat → Nat} {Q : Option Value → jS → Prop} {v0 : Int32} {v1 : Int32} {v2 : Int32} {h : jH}  (hd : 2 ≤ dd) {z : Int32} (K : fFo_joined v0 v1 v2 = some z) (HQ : Q (some (.int z)) (176, jRf p d q, h)) :
    jCa X dd 93 [.int v0, .int v1, .int v2] (176, jRf p d q, h) Q := by
  obtain ⟨dd, rfl⟩ : ∃ d9, dd = d9 + 1 := ⟨dd - 1, by omega⟩
  unfold fFo_joined at K
  refine jCa_of (es := jc_93) (pl := [some (.int v0), some (.int v1), some (.int v2)]) (M := jm_93) rfl rfl rfl rfl ?_
  refine jx_next (pc := 0) (pc' := 1) rfl rfl ?_
  refine jx_tsw (pc := 1) rfl ?_
  refine jx_sw1 (fun hc21 => ?_) (fun hc21 => ?_)
  · replace K := (if_pos hc21).symm.trans K
    refine jx_next (pc := 150) (pc' := 151) rfl rfl ?_
    refine jx_next (pc := 151) (pc' := 152) rfl rfl ?_
    refine jx_next (pc := 152) (pc' := 153) rfl rfl ?_
    obtain rfl := Option.some.inj K
    exact jx_iret (pc := 153) rfl HQ
  · replace K := (if_neg hc21).symm.trans K
    refine jx_sw1 (fun hc20 => ?_) (fun hc20 => ?_)
    · replace K := (if_pos hc20).symm.trans K
      refine jx_next (pc := 146) (pc' := 147) rfl rfl ?_
      refine jx_next (pc := 147) (pc' := 148) rfl rfl ?_
      refine jx_next (pc := 148) (pc' := 149) rfl rfl ?_
      obtain rfl := Option.some.inj K
      exact jx_iret (pc := 149) rfl HQ
    · replace K := (if_neg hc20).symm.trans K
      refine jx_sw1 (fun hc19 => ?_) (fun hc19 => ?_)
      · replace K := (if_pos hc19).symm.trans K
        refine jx_next (pc := 135) (pc' := 136) rfl rfl ?_
        refine jx_next (pc := 136) (pc' := 137) rfl rfl ?_
        refine jx_icne (pc := 137) rfl (fun hc1 => ?_) (fun hc1 => ?_)
        · replace K := (if_pos hc1).symm.trans K
          refine jx_next (pc := 140) (pc' := 141) rfl rfl ?_
          refine jx_next (pc := 141) (pc' := 145) rfl rfl ?_
          obtain rfl := Option.some.inj K
          exact jx_iret (pc := 145) rfl HQ
        · replace K := (if_neg hc1).symm.trans K
          refine jx_next (pc := 144) (pc' := 145) rfl rfl ?_
          obtain rfl := Option.some.inj K
          exact jx_iret (pc := 145) rfl HQ
      · replace K := (if_neg hc19).symm.trans K
        refine jx_sw1 (fun hc18 => ?_) (fun hc18 => ?_)
        · replace K := (if_pos hc18).symm.trans K
          refine jx_next (pc := 124) (pc' := 125) rfl rfl ?_
          refine jx_next (pc := 125) (pc' := 126) rfl rfl ?_
          refine jx_icle (pc := 126) rfl (fun hc2 => ?_) (fun hc2 => ?_)
          · replace K := (if_pos hc2).symm.trans K
            refine jx_next (pc := 129) (pc' := 130) rfl rfl ?_
            refine jx_next (pc := 130) (pc' := 134) rfl rfl ?_
            obtain rfl := Option.some.inj K
            exact jx_iret (pc := 134) rfl HQ
          · replace K := (if_neg hc2).symm.trans K
            refine jx_next (pc := 133) (pc' := 134) rfl rfl ?_
            obtain rfl := Option.some.inj K
            exact jx_iret (pc := 134) rfl HQ
        · replace K := (if_neg hc18).symm.trans K
          refine jx_sw1 (fun hc17 => ?_) (fun hc17 => ?_)
          · replace K := (if_pos hc17).symm.trans K
            refine jx_next (pc := 113) (pc' := 114) rfl rfl ?_
            refine jx_next (pc := 114) (pc' := 115) rfl rfl ?_
            refine jx_icge (pc := 115) rfl (fun hc3 => ?_) (fun hc3 => ?_)
            · replace K := (if_pos hc3).symm.trans K
              refine jx_next (pc := 118) (pc' := 119) rfl rfl ?_
              refine jx_next (pc := 119) (pc' := 123) rfl rfl ?_
              obtain rfl := Option.some.inj K
              exact jx_iret (pc := 123) rfl HQ
            · replace K := (if_neg hc3).symm.trans K
              refine jx_next (pc := 122) (pc' := 123) rfl rfl ?_
              obtain rfl := Option.some.inj K
              exact jx_iret (pc := 123) rfl HQ
          · replace K := (if_neg hc17).symm.trans K
            refine jx_sw1 (fun hc16 => ?_) (fun hc16 => ?_)
            · replace K := (if_pos hc16).symm.trans K
              refine jx_next (pc := 107) (pc' := 108) rfl rfl ?_
              refine jx_next (pc := 108) (pc' := 109) rfl rfl ?_
              refine jx_calls (pc := 109) rfl (Nat.le_of_ble_eq_true rfl) (Nat.le_of_ble_eq_true rfl) ?_
              refine kMt_max  (by omega) rfl ?_
              obtain rfl := Option.some.inj K
              exact jx_iret (pc := 112) rfl HQ
            · replace K := (if_neg hc16).symm.trans K
              refine jx_sw1 (fun hc15 => ?_) (fun hc15 => ?_)
              · replace K := (if_pos hc15).symm.trans K
                refine jx_next (pc := 101) (pc' := 102) rfl rfl ?_
                refine jx_next (pc := 102) (pc' := 103) rfl rfl ?_
                refine jx_calls (pc := 103) rfl (Nat.le_of_ble_eq_true rfl) (Nat.le_of_ble_eq_true rfl) ?_
                refine kMt_min  (by omega) rfl ?_
                obtain rfl := Option.some.inj K
                exact jx_iret (pc := 106) rfl HQ
              · replace K := (if_neg hc15).symm.trans K
                refine jx_sw1 (fun hc14 => ?_) (fun hc14 => ?_)
                · replace K := (if_pos hc14).symm.trans K
                  refine jx_next (pc := 87) (pc' := 88) rfl rfl ?_
                  refine jx_ifne (pc := 88) rfl (fun hc6 => ?_) (fun hc6 => ?_)
                  · replace K := (if_pos hc6).symm.trans K
                    refine jx_next (pc := 91) (pc' := 92) rfl rfl ?_
                    refine jx_next (pc := 92) (pc' := 100) rfl rfl ?_
                    obtain rfl := Option.some.inj K
                    exact jx_iret (pc := 100) rfl HQ
                  · replace K := (if_neg hc6).symm.trans K
                    refine jx_next (pc := 95) (pc' := 96) rfl rfl ?_
                    refine jx_next (pc := 96) (pc' := 97) rfl rfl ?_
                    refine jx_calls (pc := 97) rfl (Nat.le_of_ble_eq_true rfl) (Nat.le_of_ble_eq_true rfl) ?_
                    obtain ⟨z7, hz_z7, K⟩ := Option.bind_eq_some_iff.mp K
                    refine kMt_floorDiv  (by omega) hz_z7 ?_
                    obtain rfl := Option.some.inj K
                    exact jx_iret (pc := 100) rfl HQ
                · replace K := (if_neg hc14).symm.trans K
                  refine jx_sw1 (fun hc13 => ?_) (fun hc13 => ?_)
                  · replace K := (if_pos hc13).symm.trans K
                    refine jx_next (pc := 78) (pc' := 79) rfl rfl ?_
                    refine jx_next (pc := 79) (pc' := 80) rfl rfl ?_
                    refine jx_next (pc := 80) (pc' := 81) rfl rfl ?_
                    refine jx_next (pc := 81) (pc' := 82) rfl rfl ?_
                    refine jx_next (pc := 82) (pc' := 83) rfl rfl ?_
                    refine jx_calls (pc := 83) rfl (Nat.le_of_ble_eq_true rfl) (Nat.le_of_ble_eq_true rfl) ?_
                    refine kFo_limited  (by omega) rfl ?_
                    obtain rfl := Option.some.inj K
                    exact jx_iret (pc := 86) rfl HQ
                  · replace K := (if_neg hc13).symm.trans K
                    refine jx_sw1 (fun hc12 => ?_) (fun hc12 => ?_)
                    · replace K := (if_pos hc12).symm.trans K
                      refine jx_next (pc := 69) (pc' := 70) rfl rfl ?_
                      refine jx_next (pc := 70) (pc' := 71) rfl rfl ?_
                      refine jx_next (pc := 71) (pc' := 72) rfl rfl ?_
                      refine jx_next (pc := 72) (pc' := 73) rfl rfl ?_
                      refine jx_next (pc := 73) (pc' := 74) rfl rfl ?_
                      refine jx_calls (pc := 74) rfl (Nat.le_of_ble_eq_true rfl) (Nat.le_of_ble_eq_true rfl) ?_
                      refine kFo_limited  (by omega) rfl ?_
                      obtain rfl := Option.some.inj K
                      exact jx_iret (pc := 77) rfl HQ
                    · replace K := (if_neg hc12).symm.trans K
                      refine jx_sw1 (fun hc11 => ?_) (fun hc11 => ?_)
                      · replace K := (if_pos hc11).symm.trans K
                        refine jx_next (pc := 60) (pc' := 61) rfl rfl ?_
                        refine jx_next (pc := 61) (pc' := 62) rfl rfl ?_
                        refine jx_next (pc := 62) (pc' := 63) rfl rfl ?_
                        refine jx_next (pc := 63) (pc' := 64) rfl rfl ?_
                        refine jx_next (pc := 64) (pc' := 65) rfl rfl ?_
                        refine jx_calls (pc := 65) rfl (Nat.le_of_ble_eq_true rfl) (Nat.le_of_ble_eq_true rfl) ?_
                        refine kFo_limited  (by omega) rfl ?_
                        obtain rfl := Option.some.inj K
                        exact jx_iret (pc := 68) rfl HQ
                      · replace K := (if_neg hc11).symm.trans K
                        refine jx_sw0 ?_
                        refine jx_next (pc := 154) (pc' := 155) rfl rfl ?_
                        obtain rfl := Option.some.inj K
                        exact jx_iret (pc := 155) rfl HQ
noncomputable def fFo_valueFor_l5_j152 (o : Nat) (v1 : Nat) (v2 : Nat) (v3 : Int32) (v4 : Int32) (h : jH) : Option ((Int32 × Int32 × jH) ⊕ (jH)) :=
  some (.inl (v3, v4 + 1, h))
theorem kFo_valueFor_l5_j152 {X : jX} {dd : Nat} {p d : Nat} {q : Nat → Nat} {Q : Option Value → jS → Prop} {o : Nat} {v1 : Nat} {v2 : Nat} {v3 : Int32} {v4 : Int32} {h : jH} (hP : jOK p d q) (ho : jcl 176 o = 5) (hv1 : jcl 176 v1 = 20) (hv2 : jcl 176 v2 = 20) (hd : 3 ≤ (dd + 1)) {z : (Int32 × Int32 × jH) ⊕ (jH)} (K : fFo_valueFor_l5_j152 o v1 v2 v3 v4 h = some z) (HL : ∀ s : Int32 × Int32 × jH, z = .inl s → jEx X (dd + 1) jc_90 5 [some (.ref o), some (.ref v1), some (.ref v2), some (.int s.1), some (.int s.2.1), none] [] (176, jRf p d q, s.2.2) Q) (HE0 : ∀ x : jH, z = .inr x → jEx X (dd + 1) jc_90 158 [some (.ref o), none, none, none, none, none] [] (176, jRf p d q, x) Q) :
    jEx X (dd + 1) jc_90 152 [some (.ref o), some (.ref v1), some (.ref v2), some (.int v3), some (.int v4), none] [] (176, jRf p d q, h) Q := by
  unfold fFo_valueFor_l5_j152 at K
  refine jx_inc (pc := 152) (x := v4) (p2 := [some (.ref o), some (.ref v1), some (.ref v2), some (.int v3), some (.int (v4 + 1)), none]) rfl rfl (jlt rfl) rfl ?_
  refine jx_next (pc := 155) (pc' := 5) rfl rfl ?_
  obtain rfl := Option.some.inj K
  refine jx_le (pl' := [some (.ref o), some (.ref v1), some (.ref v2), some (.int v3), some (.int (v4 + 1)), none]) (jle_v (jle_v (jle_v (jle_v (jle_v (jle_n jle_nil)))))) ?_
  exact HL (v3, v4 + 1, h) rfl
noncomputable def fFo_valueFor_l5_j72 (o : Nat) (v1 : Nat) (v2 : Nat) (v3 : Int32) (v4 : Int32) (s0 : Nat) (s1 : Int32) (s2 : Int32) (h : jH) : Option ((Int32 × Int32 × jH) ⊕ (jH)) :=
  (if jin s1 (jsh s0).2 then
  fFo_valueFor_l5_j152  o v1 v2 (v3 + 1) v4 (jhI h s0 s1.toNatClampNeg s2)
  else none)
theorem kFo_valueFor_l5_j72 {X : jX} {dd : Nat} {p d : Nat} {q : Nat → Nat} {Q : Option Value → jS → Prop} {o : Nat} {v1 : Nat} {v2 : Nat} {v3 : Int32} {v4 : Int32} {s0 : Nat} {s1 : Int32} {s2 : Int32} {h : jH} (hP : jOK p d q) (ho : jcl 176 o = 5) (hv1 : jcl 176 v1 = 20) (hv2 : jcl 176 v2 = 20) (hs0 : jcl 176 s0 = 20) (hd : 3 ≤ (dd + 1)) {z : (Int32 × Int32 × jH) ⊕ (jH)} (K : fFo_valueFor_l5_j72 o v1 v2 v3 v4 s0 s1 s2 h = some z) (HL : ∀ s : Int32 × Int32 × jH, z = .inl s → jEx X (dd + 1) jc_90 5 [some (.ref o), some (.ref v1), some (.ref v2), some (.int s.1), some (.int s.2.1), none] [] (176, jRf p d q, s.2.2) Q) (HE0 : ∀ x : jH, z = .inr x → jEx X (dd + 1) jc_90 158 [some (.ref o), none, none, none, none, none] [] (176, jRf p d q, x) Q) :
    jEx X (dd + 1) jc_90 72 [some (.ref o), some (.ref v1), some (.ref v2), some (.int v3), some (.int v4), none] [.int s2, .int s1, .ref s0] (176, jRf p d q, h) Q := by
  unfold fFo_valueFor_l5_j72 at K
  obtain ⟨hg8, K⟩ := jguard K
  refine jx_iast2 (pc := 72) rfl hs0 rfl hg8 ?_
  refine jx_inc (pc := 73) (x := v3) (p2 := [some (.ref o), some (.ref v1), some (.ref v2), some (.int (v3 + 1)), some (.int v4), none]) rfl rfl (jlt rfl) rfl ?_
  refine jx_next (pc := 76) (pc' := 152) rfl rfl ?_
  refine jx_le (pl' := [some (.ref o), some (.ref v1), some (.ref v2), some (.int (v3 + 1)), some (.int v4), none]) (jle_v (jle_v (jle_v (jle_v (jle_v (jle_n jle_nil)))))) ?_
  exact kFo_valueFor_l5_j152 hP ho hv1 hv2 hd K HL HE0
noncomputable def fFo_valueFor_l5_b (o : Nat) (v1 : Nat) (v2 : Nat) (v3 : Int32) (v4 : Int32) (h : jH) : Option ((Int32 × Int32 × jH) ⊕ (jH)) :=
  (if v4 < (h.1 o 2) then
  (if v4 < 1600 then
  (if jin v4 1600 then
  (if (-11) < (h.1 (o + 1) v4.toNatClampNeg) then
  (if v3 < 64 then
  (if (h.1 (o + 1) v4.toNatClampNeg) < 0 then
  (Option.bind (fFo_factAt v1 ((-1) - (h.1 (o + 1) v4.toNatClampNeg)) h) (fun (z7 : Int32) =>
  fFo_valueFor_l5_j72  o v1 v2 v3 v4 (o + 2) v3 z7 h))
  else
  fFo_valueFor_l5_j72  o v1 v2 v3 v4 (o + 2) v3 (h.1 (o + 1) v4.toNatClampNeg) h)
  else
  fFo_valueFor_l5_j152  o v1 v2 v3 v4 h)
  else
  (if (-22) < (h.1 (o + 1) v4.toNatClampNeg) then
  (if v3 < 2 then
  fFo_valueFor_l5_j152  o v1 v2 v3 v4 h
  else
  (if jin ((v3 + (-1)) - 1) 64 then
  (if jin (v3 + (-1)) 64 then
  (Option.bind (fFo_joined (h.1 (o + 1) v4.toNatClampNeg) (h.1 (o + 2) ((v3 + (-1)) - 1).toNatClampNeg) (h.1 (o + 2) (v3 + (-1)).toNatClampNeg)) (fun (z13 : Int32) =>
  (if jin ((v3 + (-1)) - 1) 64 then
  fFo_valueFor_l5_j152  o v1 v2 (v3 + (-1)) v4 (jhI h (o + 2) ((v3 + (-1)) - 1).toNatClampNeg z13)
  else none)))
  else none)
  else none))
  else
  (if v3 < 1 then
  fFo_valueFor_l5_j152  o v1 v2 v3 v4 h
  else
  (if jin (v3 - 1) 64 then
  (Option.bind (fFo_turned (h.1 (o + 1) v4.toNatClampNeg) (h.1 (o + 2) (v3 - 1).toNatClampNeg) v1 v2 h) (fun (z17 : Int32) =>
  (if jin (v3 - 1) 64 then
  fFo_valueFor_l5_j152  o v1 v2 v3 v4 (jhI h (o + 2) (v3 - 1).toNatClampNeg z17)
  else none)))
  else none))))
  else none)
  else
  some (.inr h))
  else
  some (.inr h))
noncomputable def fFo_valueFor_l5 (o : Nat) (v1 : Nat) (v2 : Nat) : (Int32 × Int32 × jH) → Option ((Int32 × Int32 × jH) ⊕ (jH)) :=
  fun (s : Int32 × Int32 × jH) => fFo_valueFor_l5_b o v1 v2 s.1 s.2.1 s.2.2
theorem kFo_valueFor_l5_b {X : jX} {dd : Nat} {p d : Nat} {q : Nat → Nat} {Q : Option Value → jS → Prop} {o : Nat} {v1 : Nat} {v2 : Nat} {v3 : Int32} {v4 : Int32} {h : jH} (hP : jOK p d q) (ho : jcl 176 o = 5) (hv1 : jcl 176 v1 = 20) (hv2 : jcl 176 v2 = 20) (hd : 3 ≤ (dd + 1)) {z : (Int32 × Int32 × jH) ⊕ (jH)} (K : fFo_valueFor_l5_b o v1 v2 v3 v4 h = some z) (HL : ∀ s : Int32 × Int32 × jH, z = .inl s → jEx X (dd + 1) jc_90 5 [some (.ref o), some (.ref v1), some (.ref v2), some (.int s.1), some (.int s.2.1), none] [] (176, jRf p d q, s.2.2) Q) (HE0 : ∀ x : jH, z = .inr x → jEx X (dd + 1) jc_90 158 [some (.ref o), none, none, none, none, none] [] (176, jRf p d q, x) Q) :
    jEx X (dd + 1) jc_90 5 [some (.ref o), some (.ref v1), some (.ref v2), some (.int v3), some (.int v4), none] [] (176, jRf p d q, h) Q := by
  unfold fFo_valueFor_l5_b at K
  refine jx_next (pc := 5) (pc' := 7) rfl rfl ?_
  refine jx_next (pc := 7) (pc' := 8) rfl rfl ?_
  refine jx_geti (pc := 8) rfl ho ?_
  refine jx_icge (pc := 11) rfl (fun hc1 => ?_) (fun hc1 => ?_)
  · replace K := (if_pos hc1).symm.trans K
    refine jx_next (pc := 14) (pc' := 16) rfl rfl ?_
    refine jx_next (pc := 16) (pc' := 17) rfl rfl ?_
    refine jx_getr2 (pc := 17) rfl ho (jrm_5_0 ho) ?_
    refine jx_alen2 (pc := 20) rfl (jkm_5_0 ho) ⟨by decide, by decide⟩ (congrArg Int32.ofNat (jnm_5_0 ho)) ?_
    refine jx_icge (pc := 21) rfl (fun hc2 => ?_) (fun hc2 => ?_)
    · replace K := (if_pos hc2).symm.trans K
      refine jx_next (pc := 24) (pc' := 25) rfl rfl ?_
      refine jx_getr2 (pc := 25) rfl ho (jrm_5_0 ho) ?_
      refine jx_next (pc := 28) (pc' := 30) rfl rfl ?_
      obtain ⟨hg3, K⟩ := jguard K
      refine jx_iald2 (pc := 30) rfl (jkm_5_0 ho) (jnm_5_0 ho) hg3 ?_
      refine jx_sti (pc := 31) (p2 := [some (.ref o), some (.ref v1), some (.ref v2), some (.int v3), some (.int v4), some (.int (h.1 (o + 1) v4.toNatClampNeg))]) rfl (jlt rfl) rfl ?_
      refine jx_next (pc := 33) (pc' := 35) rfl rfl ?_
      refine jx_next (pc := 35) (pc' := 37) rfl rfl ?_
      refine jx_icle (pc := 37) rfl (fun hc4 => ?_) (fun hc4 => ?_)
      · replace K := (if_pos hc4).symm.trans K
        refine jx_next (pc := 40) (pc' := 41) rfl rfl ?_
        refine jx_next (pc := 41) (pc' := 42) rfl rfl ?_
        refine jx_getr2 (pc := 42) rfl ho (jrm_5_1 ho) ?_
        refine jx_alen2 (pc := 45) rfl (jkm_5_1 ho) ⟨by decide, by decide⟩ (congrArg Int32.ofNat (jnm_5_1 ho)) ?_
        refine jx_icge (pc := 46) rfl (fun hc5 => ?_) (fun hc5 => ?_)
        · replace K := (if_pos hc5).symm.trans K
          refine jx_next (pc := 49) (pc' := 50) rfl rfl ?_
          refine jx_getr2 (pc := 50) rfl ho (jrm_5_1 ho) ?_
          refine jx_next (pc := 53) (pc' := 54) rfl rfl ?_
          refine jx_next (pc := 54) (pc' := 56) rfl rfl ?_
          refine jx_iflt (pc := 56) rfl (fun hc6 => ?_) (fun hc6 => ?_)
          · replace K := (if_pos hc6).symm.trans K
            refine jx_next (pc := 64) (pc' := 65) rfl rfl ?_
            refine jx_next (pc := 65) (pc' := 66) rfl rfl ?_
            refine jx_next (pc := 66) (pc' := 68) rfl rfl ?_
            refine jx_next (pc := 68) (pc' := 69) rfl rfl ?_
            refine jx_calls (pc := 69) rfl (Nat.le_of_ble_eq_true rfl) (Nat.le_of_ble_eq_true rfl) ?_
            obtain ⟨z7, hz_z7, K⟩ := Option.bind_eq_some_iff.mp K
            refine kFo_factAt hP hv1 (by omega) hz_z7 ?_
            refine jx_le (pl' := [some (.ref o), some (.ref v1), some (.ref v2), some (.int v3), some (.int v4), none]) (jle_v (jle_v (jle_v (jle_v (jle_v (jle_n jle_nil)))))) ?_
            exact kFo_valueFor_l5_j72 hP ho hv1 hv2 (jkm_5_1 ho) hd K HL HE0
          · replace K := (if_neg hc6).symm.trans K
            refine jx_next (pc := 59) (pc' := 61) rfl rfl ?_
            refine jx_next (pc := 61) (pc' := 72) rfl rfl ?_
            refine jx_le (pl' := [some (.ref o), some (.ref v1), some (.ref v2), some (.int v3), some (.int v4), none]) (jle_v (jle_v (jle_v (jle_v (jle_v (jle_n jle_nil)))))) ?_
            exact kFo_valueFor_l5_j72 hP ho hv1 hv2 (jkm_5_1 ho) hd K HL HE0
        · replace K := (if_neg hc5).symm.trans K
          refine jx_le (pl' := [some (.ref o), some (.ref v1), some (.ref v2), some (.int v3), some (.int v4), none]) (jle_v (jle_v (jle_v (jle_v (jle_v (jle_n jle_nil)))))) ?_
          exact kFo_valueFor_l5_j152 hP ho hv1 hv2 hd K HL HE0
      · replace K := (if_neg hc4).symm.trans K
        refine jx_next (pc := 79) (pc' := 81) rfl rfl ?_
        refine jx_next (pc := 81) (pc' := 83) rfl rfl ?_
        refine jx_icgt (pc := 83) rfl (fun hc9 => ?_) (fun hc9 => ?_)
        · replace K := (if_pos hc9).symm.trans K
          refine jx_next (pc := 117) (pc' := 118) rfl rfl ?_
          refine jx_next (pc := 118) (pc' := 119) rfl rfl ?_
          refine jx_iclt (pc := 119) rfl (fun hc10 => ?_) (fun hc10 => ?_)
          · replace K := (if_pos hc10).symm.trans K
            refine jx_le (pl' := [some (.ref o), some (.ref v1), some (.ref v2), some (.int v3), some (.int v4), none]) (jle_v (jle_v (jle_v (jle_v (jle_v (jle_n jle_nil)))))) ?_
            exact kFo_valueFor_l5_j152 hP ho hv1 hv2 hd K HL HE0
          · replace K := (if_neg hc10).symm.trans K
            refine jx_inc (pc := 122) (x := v3) (p2 := [some (.ref o), some (.ref v1), some (.ref v2), some (.int (v3 + (-1))), some (.int v4), some (.int (h.1 (o + 1) v4.toNatClampNeg))]) rfl rfl (jlt rfl) rfl ?_
            refine jx_next (pc := 125) (pc' := 126) rfl rfl ?_
            refine jx_getr2 (pc := 126) rfl ho (jrm_5_1 ho) ?_
            refine jx_next (pc := 129) (pc' := 130) rfl rfl ?_
            refine jx_next (pc := 130) (pc' := 131) rfl rfl ?_
            refine jx_next (pc := 131) (pc' := 132) rfl rfl ?_
            refine jx_next (pc := 132) (pc' := 134) rfl rfl ?_
            refine jx_next (pc := 134) (pc' := 135) rfl rfl ?_
            refine jx_getr2 (pc := 135) rfl ho (jrm_5_1 ho) ?_
            refine jx_next (pc := 138) (pc' := 139) rfl rfl ?_
            refine jx_next (pc := 139) (pc' := 140) rfl rfl ?_
            refine jx_next (pc := 140) (pc' := 141) rfl rfl ?_
            obtain ⟨hg11, K⟩ := jguard K
            refine jx_iald2 (pc := 141) rfl (jkm_5_1 ho) (jnm_5_1 ho) hg11 ?_
            refine jx_next (pc := 142) (pc' := 143) rfl rfl ?_
            refine jx_getr2 (pc := 143) rfl ho (jrm_5_1 ho) ?_
            refine jx_next (pc := 146) (pc' := 147) rfl rfl ?_
            obtain ⟨hg12, K⟩ := jguard K
            refine jx_iald2 (pc := 147) rfl (jkm_5_1 ho) (jnm_5_1 ho) hg12 ?_
            refine jx_calls (pc := 148) rfl (Nat.le_of_ble_eq_true rfl) (Nat.le_of_ble_eq_true rfl) ?_
            obtain ⟨z13, hz_z13, K⟩ := Option.bind_eq_some_iff.mp K
            refine kFo_joined  (by omega) hz_z13 ?_
            obtain ⟨hg14, K⟩ := jguard K
            refine jx_iast2 (pc := 151) rfl (jkm_5_1 ho) (jnm_5_1 ho) hg14 ?_
            refine jx_le (pl' := [some (.ref o), some (.ref v1), some (.ref v2), some (.int (v3 + (-1))), some (.int v4), none]) (jle_v (jle_v (jle_v (jle_v (jle_v (jle_n jle_nil)))))) ?_
            exact kFo_valueFor_l5_j152 hP ho hv1 hv2 hd K HL HE0
        · replace K := (if_neg hc9).symm.trans K
          refine jx_next (pc := 86) (pc' := 87) rfl rfl ?_
          refine jx_next (pc := 87) (pc' := 88) rfl rfl ?_
          refine jx_iclt (pc := 88) rfl (fun hc15 => ?_) (fun hc15 => ?_)
          · replace K := (if_pos hc15).symm.trans K
            refine jx_le (pl' := [some (.ref o), some (.ref v1), some (.ref v2), some (.int v3), some (.int v4), none]) (jle_v (jle_v (jle_v (jle_v (jle_v (jle_n jle_nil)))))) ?_
            exact kFo_valueFor_l5_j152 hP ho hv1 hv2 hd K HL HE0
          · replace K := (if_neg hc15).symm.trans K
            refine jx_next (pc := 91) (pc' := 92) rfl rfl ?_
            refine jx_getr2 (pc := 92) rfl ho (jrm_5_1 ho) ?_
            refine jx_next (pc := 95) (pc' := 96) rfl rfl ?_
            refine jx_next (pc := 96) (pc' := 97) rfl rfl ?_
            refine jx_next (pc := 97) (pc' := 98) rfl rfl ?_
            refine jx_next (pc := 98) (pc' := 100) rfl rfl ?_
            refine jx_next (pc := 100) (pc' := 101) rfl rfl ?_
            refine jx_getr2 (pc := 101) rfl ho (jrm_5_1 ho) ?_
            refine jx_next (pc := 104) (pc' := 105) rfl rfl ?_
            refine jx_next (pc := 105) (pc' := 106) rfl rfl ?_
            refine jx_next (pc := 106) (pc' := 107) rfl rfl ?_
            obtain ⟨hg16, K⟩ := jguard K
            refine jx_iald2 (pc := 107) rfl (jkm_5_1 ho) (jnm_5_1 ho) hg16 ?_
            refine jx_next (pc := 108) (pc' := 109) rfl rfl ?_
            refine jx_next (pc := 109) (pc' := 110) rfl rfl ?_
            refine jx_calls (pc := 110) rfl (Nat.le_of_ble_eq_true rfl) (Nat.le_of_ble_eq_true rfl) ?_
            obtain ⟨z17, hz_z17, K⟩ := Option.bind_eq_some_iff.mp K
            refine kFo_turned hP hv1 hv2 (by omega) hz_z17 ?_
            obtain ⟨hg18, K⟩ := jguard K
            refine jx_iast2 (pc := 113) rfl (jkm_5_1 ho) (jnm_5_1 ho) hg18 ?_
            refine jx_next (pc := 114) (pc' := 152) rfl rfl ?_
            refine jx_le (pl' := [some (.ref o), some (.ref v1), some (.ref v2), some (.int v3), some (.int v4), none]) (jle_v (jle_v (jle_v (jle_v (jle_v (jle_n jle_nil)))))) ?_
            exact kFo_valueFor_l5_j152 hP ho hv1 hv2 hd K HL HE0
    · replace K := (if_neg hc2).symm.trans K
      obtain rfl := Option.some.inj K
      refine jx_le (pl' := [some (.ref o), none, none, none, none, none]) (jle_v (jle_n (jle_n (jle_n (jle_n (jle_n jle_nil)))))) ?_
      exact HE0 _ rfl
  · replace K := (if_neg hc1).symm.trans K
    obtain rfl := Option.some.inj K
    refine jx_le (pl' := [some (.ref o), none, none, none, none, none]) (jle_v (jle_n (jle_n (jle_n (jle_n (jle_n jle_nil)))))) ?_
    exact HE0 _ rfl
theorem kFo_valueFor_l5_w {X : jX} {dd : Nat} {p d : Nat} {q : Nat → Nat} {Q : Option Value → jS → Prop} {o : Nat} {v1 : Nat} {v2 : Nat} (hP : jOK p d q) (ho : jcl 176 o = 5) (hv1 : jcl 176 v1 = 20) (hv2 : jcl 176 v2 = 20) (hd : 3 ≤ (dd + 1)) {s : Int32 × Int32 × jH} {x : jH} (K : jlim (fFo_valueFor_l5 o v1 v2) s = some x) (HE : jEx X (dd + 1) jc_90 158 [some (.ref o), none, none, none, none, none] [] (176, jRf p d q, x) Q) :
    jEx X (dd + 1) jc_90 5 [some (.ref o), some (.ref v1), some (.ref v2), some (.int s.1), some (.int s.2.1), none] [] (176, jRf p d q, s.2.2) Q := by
  refine jlim_ok (G := fun s : Int32 × Int32 × jH => jEx X (dd + 1) jc_90 5 [some (.ref o), some (.ref v1), some (.ref v2), some (.int s.1), some (.int s.2.1), none] [] (176, jRf p d q, s.2.2) Q) (GX := fun x : jH => jEx X (dd + 1) jc_90 158 [some (.ref o), none, none, none, none, none] [] (176, jRf p d q, x) Q) (fun s z hz HL HE => ?_) K HE
  exact kFo_valueFor_l5_b hP ho hv1 hv2 hd hz HL HE
/-- AndGuest$Formula.valueFor([I[I)I -/
noncomputable def fFo_valueFor (o : Nat) (v1 : Nat) (v2 : Nat) (h : jH) : Option (Int32 × jH) :=
  (Option.bind (jlim (fFo_valueFor_l5  o v1 v2) (0, 0, h)) (fun (x19 : jH) =>
  (if jin 0 64 then
  some (x19.1 (o + 2) (0 : Int32).toNatClampNeg, x19)
  else none)))
theorem kFo_valueFor {X : jX} {dd : Nat} {p d : Nat} {q : Nat → Nat} {Q : Option Value → jS → Prop} {o : Nat} {v1 : Nat} {v2 : Nat} {h : jH} (hP : jOK p d q) (ho : jcl 176 o = 5) (hv1 : jcl 176 v1 = 20) (hv2 : jcl 176 v2 = 20) (hd : 3 ≤ dd) {z : Int32 × jH} (K : fFo_valueFor o v1 v2 h = some z) (HQ : Q (some (.int z.1)) (176, jRf p d q, z.2)) :
    jCa X dd 90 [.ref o, .ref v1, .ref v2] (176, jRf p d q, h) Q := by
  obtain ⟨dd, rfl⟩ : ∃ d9, dd = d9 + 1 := ⟨dd - 1, by omega⟩
  unfold fFo_valueFor at K
  refine jCa_of (es := jc_90) (pl := [some (.ref o), some (.ref v1), some (.ref v2), none, none, none]) (M := jm_90) rfl rfl rfl rfl ?_
  refine jx_next (pc := 0) (pc' := 1) rfl rfl ?_
  refine jx_stin (pc := 1) (p2 := [some (.ref o), some (.ref v1), some (.ref v2), some (.int 0), none, none]) rfl (jlt rfl) rfl ?_
  refine jx_next (pc := 2) (pc' := 3) rfl rfl ?_
  refine jx_sti (pc := 3) (p2 := [some (.ref o), some (.ref v1), some (.ref v2), some (.int 0), some (.int 0), none]) rfl (jlt rfl) rfl ?_
  refine jx_le (pl' := [some (.ref o), some (.ref v1), some (.ref v2), some (.int 0), some (.int 0), none]) (jle_v (jle_v (jle_v (jle_v (jle_v (jle_n jle_nil)))))) ?_
  obtain ⟨x19, hz_x19, K⟩ := Option.bind_eq_some_iff.mp K
  refine kFo_valueFor_l5_w hP ho hv1 hv2 hd hz_x19 ?_
  refine jx_next (pc := 158) (pc' := 159) rfl rfl ?_
  refine jx_getr2 (pc := 159) rfl ho (jrm_5_1 ho) ?_
  refine jx_next (pc := 162) (pc' := 163) rfl rfl ?_
  obtain ⟨hg20, K⟩ := jguard K
  refine jx_iald2 (pc := 163) rfl (jkm_5_1 ho) (jnm_5_1 ho) hg20 ?_
  obtain rfl := Option.some.inj K
  exact jx_iret (pc := 164) rfl HQ
