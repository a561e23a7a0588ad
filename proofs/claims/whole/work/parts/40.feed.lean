/-! Rows of bytes that grow: feed, image -/
def eB (v : Int32) : Nat := (v &&& 255).toNatClampNeg
theorem eB_spec (v : Int32) : v &&& jz 255 = jz (eB v) ∧ eB v < 256 := by
  have h1 : (v &&& 255).toBitVec.toNat < 256 := by
    show (v.toBitVec &&& 255#32).toNat < 256
    rw [BitVec.toNat_and]
    exact Nat.lt_of_le_of_lt Nat.and_le_right (by decide)
  have h2 : (v &&& 255).toInt = ((v &&& 255).toBitVec.toNat : Int) := BitVec.toInt_eq_toNat_of_lt (by omega)
  have h3 : eB v = (v &&& 255).toBitVec.toNat := by
    unfold eB
    rw [← Int32.toNat_toInt, h2]
    simp
  refine ⟨?_, by rw [h3]; exact h1⟩
  show v &&& 255 = _
  rw [h3, ← h2]
  exact jz_self _
theorem eB_jz {n : Nat} (h : n < 2147483648) : eB (jz n) = n % 256 := by
  unfold eB
  have := jbit_and (m := n) (n := 255)
  rw [show (jz n &&& (255 : Int32)) = jz ((n &&& 255 : Nat) : Int) from this, show n &&& 255 = n % 256 from Nat.and_two_pow_sub_one_eq_mod n 8, jz_ix (by omega) (by omega)]
  exact Int.toNat_natCast _
def eApp (oc kc oa n : Nat) (bs : List Nat) (h h' : jH) : Prop := h'.1 oc kc = jz ((n + bs.length : Nat) : Int) ∧ (∀ j, j < bs.length → h'.1 oa (n + j) = jz (bs.getD j 0)) ∧ (∀ o k, ¬ (o = oc ∧ k = kc) → ¬ (o = oa ∧ n ≤ k) → h'.1 o k = h.1 o k) ∧ h'.2 = h.2
section EP4
variable {oc kc oa n : Nat} {h h1 h2 : jH}
theorem eApp_nil (e : h.1 oc kc = jz n) : eApp oc kc oa n [] h h := ⟨e, fun j hj => by simp at hj, fun _ _ _ _ => rfl, rfl⟩
theorem eApp_one (e : oc ≠ oa) (b : Nat) : eApp oc kc oa n [b] h (jhI (jhI h oa n (jz b)) oc kc (jz ((n + 1 : Nat) : Int))) := by
  refine ⟨by rw [jhI_1, if_pos ⟨rfl, rfl⟩]; rfl, fun j hj => ?_, fun o k n1 n2 => ?_, rfl⟩
  · have : j = 0 := by simp at hj; omega
    subst this
    rw [jhI_1, if_neg (fun x => e x.1.symm), jhI_1, if_pos ⟨rfl, rfl⟩]
    rfl
  · rw [jhI_1, if_neg n1, jhI_1, if_neg (fun x => n2 ⟨x.1, by omega⟩)]
theorem eApp_trans {a b : List Nat} (e : oc ≠ oa) (A : eApp oc kc oa n a h h1) (B : eApp oc kc oa (n + a.length) b h1 h2) : eApp oc kc oa n (a ++ b) h h2 := by
  obtain ⟨a1, a2, a3, a4⟩ := A
  obtain ⟨b1, b2, b3, b4⟩ := B
  refine ⟨by rw [b1, List.length_append, Nat.add_assoc], fun j hj => ?_, fun o k n1 n2 => ?_, b4.trans a4⟩
  · rw [List.length_append] at hj
    by_cases c : j < a.length
    · rw [b3 _ _ (fun x => e x.1.symm) (fun x => by omega), a2 j c, List.getD_eq_getElem?_getD, List.getD_eq_getElem?_getD, List.getElem?_append_left c]
    · have := b2 (j - a.length) (by omega)
      rw [show n + a.length + (j - a.length) = n + j by omega] at this
      rw [this, List.getD_eq_getElem?_getD, List.getD_eq_getElem?_getD, List.getElem?_append_right (by omega)]
  · rw [b3 _ _ n1 (fun x => n2 ⟨x.1, by omega⟩), a3 _ _ n1 n2]
end EP4
section EP5
variable {h : jH} {n : Nat}
theorem sTp_put {o c : Nat} (v : Int32) (hc : (jsh (o + 1)).2 = c) (hn : h.1 o 1 = jz n) (hnc : n < c) (hc2 : c ≤ 2000) : ∃ h', fTp_put o v h = some h' ∧ eApp o 1 (o + 1) n [eB v] h h' := by
  have e := (eB_spec v).1
  refine ⟨_, ?_, eApp_one (by omega) (eB v)⟩
  unfold fTp_put
  rw [hn, hc]
  simp (disch := omega) only [Bool.false_eq_true, jz_lit, jz_neg, jz_nat, jz_add, jz_sub, jz_mul, jz_lt, jz_le, jz_eq, jz_ix, jin_z, jz_div, jzw, jwz, jw_lit, jw_neg, jw_add, jw_sub, jw_mul, jw_lt, jw_le, jw_eq, jw_div, Int.toNat_natCast, if_pos, if_neg, if_true, if_false, Option.bind_some, Int.natCast_add, Int.natCast_mul, Int.cast_ofNat_Int, Int.reduceToNat, Int.reduceAdd, Int.reduceMul, Int.reduceSub, Int.reduceNeg, Nat.reduceAdd, Nat.reduceMul, e]
  rw [jhI_1, if_neg (by omega), hn, jz_add]
theorem sTp_putPair {o c : Nat} (v : Int32) (hc : (jsh (o + 1)).2 = c) (hn : h.1 o 1 = jz n) (hnc : n + 1 < c) (hc2 : c ≤ 2000) : ∃ h', fTp_putPair o v h = some h' ∧ eApp o 1 (o + 1) n [eB (v >>> (8 &&& 31)), eB v] h h' := by
  obtain ⟨h1, e1, a1⟩ := sTp_put (h := h) (v >>> (8 &&& 31)) hc hn (by omega) hc2
  obtain ⟨h2, e2, a2⟩ := sTp_put (h := h1) v hc a1.1 (show n + 1 < c by omega) hc2
  refine ⟨h2, ?_, eApp_trans (a := [eB (v >>> (8 &&& 31))]) (b := [eB v]) (by omega) a1 a2⟩
  unfold fTp_putPair
  rw [e1, Option.bind_some, e2]
  rfl
theorem sTp_putFour {o c : Nat} (v : Int32) (hc : (jsh (o + 1)).2 = c) (hn : h.1 o 1 = jz n) (hnc : n + 3 < c) (hc2 : c ≤ 2000) : ∃ h', fTp_putFour o v h = some h' ∧ eApp o 1 (o + 1) n [eB ((v >>> (16 &&& 31)) >>> (8 &&& 31)), eB (v >>> (16 &&& 31)), eB (v >>> (8 &&& 31)), eB v] h h' := by
  obtain ⟨h1, e1, a1⟩ := sTp_putPair (h := h) (v >>> (16 &&& 31)) hc hn (by omega) hc2
  obtain ⟨h2, e2, a2⟩ := sTp_putPair (h := h1) v hc a1.1 (show n + 2 + 1 < c by omega) hc2
  refine ⟨h2, ?_, eApp_trans (a := [eB ((v >>> (16 &&& 31)) >>> (8 &&& 31)), eB (v >>> (16 &&& 31))]) (b := [eB (v >>> (8 &&& 31)), eB v]) (by omega) a1 a2⟩
  unfold fTp_putFour
  rw [e1, Option.bind_some, e2]
  rfl
theorem eShr24 (v : Int32) : (v >>> (16 &&& 31)) >>> (8 &&& 31) = v >>> (24 &&& 31) := by
  rw [← Int32.toBitVec_inj]
  show BitVec.sshiftRight' (BitVec.sshiftRight' v.toBitVec ((16 &&& 31 : Int32).toBitVec.smod 32)) ((8 &&& 31 : Int32).toBitVec.smod 32) = BitVec.sshiftRight' v.toBitVec ((24 &&& 31 : Int32).toBitVec.smod 32)
  rw [show (16 &&& 31 : Int32).toBitVec.smod 32 = 16#32 by decide, show (8 &&& 31 : Int32).toBitVec.smod 32 = 8#32 by decide, show (24 &&& 31 : Int32).toBitVec.smod 32 = 24#32 by decide]
  rw [BitVec.sshiftRight_eq', BitVec.sshiftRight_eq', BitVec.sshiftRight_eq', show (24#32).toNat = (16#32).toNat + (8#32).toNat by decide, BitVec.sshiftRight_add]
theorem eShr0 (v : Int32) : v >>> (0 &&& 31) = v := by
  rw [show (0 &&& 31 : Int32) = 0 by decide]
  exact Int32.shiftRight_zero
/-- the twenty bytes -/
def eW5 (a b c d e : Int32) (k : Nat) : Int32 := if k < 4 then a else if k < 8 then b else if k < 12 then c else if k < 16 then d else e
def eF5 (a b c d e : Int32) (k : Nat) : Nat := eB (eW5 a b c d e k >>> (jz ((8 * (3 - k % 4) : Nat) : Int) &&& jz 31))
theorem eF5_list (a b c d e : Int32) : (List.range 20).map (eF5 a b c d e) = [eB ((a >>> (16 &&& 31)) >>> (8 &&& 31)), eB (a >>> (16 &&& 31)), eB (a >>> (8 &&& 31)), eB a] ++ ([eB ((b >>> (16 &&& 31)) >>> (8 &&& 31)), eB (b >>> (16 &&& 31)), eB (b >>> (8 &&& 31)), eB b] ++ ([eB ((c >>> (16 &&& 31)) >>> (8 &&& 31)), eB (c >>> (16 &&& 31)), eB (c >>> (8 &&& 31)), eB c] ++ ([eB ((d >>> (16 &&& 31)) >>> (8 &&& 31)), eB (d >>> (16 &&& 31)), eB (d >>> (8 &&& 31)), eB d] ++ [eB ((e >>> (16 &&& 31)) >>> (8 &&& 31)), eB (e >>> (16 &&& 31)), eB (e >>> (8 &&& 31)), eB e]))) := by
  have z : ∀ v : Int32, eB v = eB (v >>> (0 &&& 31)) := fun v => by rw [eShr0]
  rw [eShr24, eShr24, eShr24, eShr24, eShr24, z a, z b, z c, z d, z e]
  rfl
theorem eTake_s (f : Nat → Nat) (k : Nat) : (List.range (k + 1)).map f = (List.range k).map f ++ [f k] := by
  rw [List.range_succ, List.map_append]
  rfl
theorem sM_feedl {a b c d e : Int32} (hn : h.1 110 1 = jz n) (hn2 : n + 20 ≤ 1600) : ∃ h', jlim (fM_feed_l28 a b c d e) (jz 0, h) = some h' ∧ eApp 110 1 111 n ((List.range 20).map (eF5 a b c d e)) h h' := by
  have hl := jlim_cnt (step := fM_feed_l28 a b c d e) (fun k (x : jH) => (jz k, x)) (fun k x => eApp 110 1 111 n ((List.range k).map (eF5 a b c d e)) h x) (fun x => eApp 110 1 111 n ((List.range 20).map (eF5 a b c d e)) h x) 20 20 0 (by omega) h (eApp_nil hn) ?_ ?_
  · exact hl
  · intro k x _ hk A
    have x1 := A.1
    rw [List.length_map, List.length_range] at x1
    have sp := eB_spec (eW5 a b c d e k >>> (jz ((8 * (3 - k % 4) : Nat) : Int) &&& jz 31))
    have A2 := eApp_one (oc := 110) (kc := 1) (oa := 111) (n := n + k) (h := x) (by omega) (eF5 a b c d e k)
    have A3 := eApp_trans (oc := 110) (kc := 1) (oa := 111) (n := n) (a := (List.range k).map (eF5 a b c d e)) (b := [eF5 a b c d e k]) (by omega) A (by rw [List.length_map, List.length_range]; exact A2)
    rw [← eTake_s] at A3
    refine ⟨_, ?_, A3⟩
    have core : ∀ v : Int32, v = eW5 a b c d e k → fM_feed_l28_j81 a b c d e (jz k) v x = some (.inl (jz ((k + 1 : Nat) : Int), jhI (jhI x 111 (n + k) (jz (eF5 a b c d e k))) 110 1 (jz ((n + k + 1 : Nat) : Int)))) := by
      rintro v rfl
      have ek : (3 : Int) - ((k : Int) - (k : Int).tdiv 4 * 4) = ((3 - k % 4 : Nat) : Int) := by rw [tdiv_nn (by omega)]; omega
      have sp' : (eW5 a b c d e k >>> (jz (8 * ((3 - k % 4 : Nat) : Int)) &&& jz 31)) &&& jz 255 = jz (eF5 a b c d e k) := by
        rw [show (8 : Int) * ((3 - k % 4 : Nat) : Int) = ((8 * (3 - k % 4) : Nat) : Int) by omega]
        exact sp.1
      unfold fM_feed_l28_j81
      rw [x1]
      simp (disch := omega) only [Bool.false_eq_true, jz_lit, jz_neg, jz_nat, jz_add, jz_sub, jz_mul, jz_lt, jz_le, jz_eq, jz_ix, jin_z, jz_div, jzw, jwz, jw_lit, jw_neg, jw_add, jw_sub, jw_mul, jw_lt, jw_le, jw_eq, jw_div, Int.toNat_natCast, if_pos, if_neg, if_true, if_false, Option.bind_some, Int.natCast_add, Int.natCast_mul, Int.cast_ofNat_Int, Int.reduceToNat, Int.reduceAdd, Int.reduceMul, Int.reduceSub, Int.reduceNeg, Nat.reduceAdd, Nat.reduceMul, ek, sp']
      rw [jhI_1, if_neg (by omega), x1]
      simp (disch := omega) only [Bool.false_eq_true, jz_lit, jz_neg, jz_nat, jz_add, jz_sub, jz_mul, jz_lt, jz_le, jz_eq, jz_ix, jin_z, jz_div, jzw, jwz, jw_lit, jw_neg, jw_add, jw_sub, jw_mul, jw_lt, jw_le, jw_eq, jw_div, Int.toNat_natCast, if_pos, if_neg, if_true, if_false, Option.bind_some, Int.natCast_add, Int.natCast_mul, Int.cast_ofNat_Int, Int.reduceToNat, Int.reduceAdd, Int.reduceMul, Int.reduceSub, Int.reduceNeg, Nat.reduceAdd, Nat.reduceMul]
      rfl
    simp only [fM_feed_l28, fM_feed_l28_b]
    by_cases c1 : k < 4
    · simp (disch := omega) only [Bool.false_eq_true, jz_lit, jz_neg, jz_nat, jz_add, jz_sub, jz_mul, jz_lt, jz_le, jz_eq, jz_ix, jin_z, jz_div, jzw, jwz, jw_lit, jw_neg, jw_add, jw_sub, jw_mul, jw_lt, jw_le, jw_eq, jw_div, Int.toNat_natCast, if_pos, if_neg, if_true, if_false, Option.bind_some, Int.natCast_add, Int.natCast_mul, Int.cast_ofNat_Int, Int.reduceToNat, Int.reduceAdd, Int.reduceMul, Int.reduceSub, Int.reduceNeg, Nat.reduceAdd, Nat.reduceMul, core a (by unfold eW5; rw [if_pos c1])]
    by_cases c2 : k < 8
    · simp (disch := omega) only [Bool.false_eq_true, jz_lit, jz_neg, jz_nat, jz_add, jz_sub, jz_mul, jz_lt, jz_le, jz_eq, jz_ix, jin_z, jz_div, jzw, jwz, jw_lit, jw_neg, jw_add, jw_sub, jw_mul, jw_lt, jw_le, jw_eq, jw_div, Int.toNat_natCast, if_pos, if_neg, if_true, if_false, Option.bind_some, Int.natCast_add, Int.natCast_mul, Int.cast_ofNat_Int, Int.reduceToNat, Int.reduceAdd, Int.reduceMul, Int.reduceSub, Int.reduceNeg, Nat.reduceAdd, Nat.reduceMul, core b (by unfold eW5; rw [if_neg c1, if_pos c2])]
    by_cases c3 : k < 12
    · simp (disch := omega) only [Bool.false_eq_true, jz_lit, jz_neg, jz_nat, jz_add, jz_sub, jz_mul, jz_lt, jz_le, jz_eq, jz_ix, jin_z, jz_div, jzw, jwz, jw_lit, jw_neg, jw_add, jw_sub, jw_mul, jw_lt, jw_le, jw_eq, jw_div, Int.toNat_natCast, if_pos, if_neg, if_true, if_false, Option.bind_some, Int.natCast_add, Int.natCast_mul, Int.cast_ofNat_Int, Int.reduceToNat, Int.reduceAdd, Int.reduceMul, Int.reduceSub, Int.reduceNeg, Nat.reduceAdd, Nat.reduceMul, core c (by unfold eW5; rw [if_neg c1, if_neg c2, if_pos c3])]
    by_cases c4 : k < 16
    · simp (disch := omega) only [Bool.false_eq_true, jz_lit, jz_neg, jz_nat, jz_add, jz_sub, jz_mul, jz_lt, jz_le, jz_eq, jz_ix, jin_z, jz_div, jzw, jwz, jw_lit, jw_neg, jw_add, jw_sub, jw_mul, jw_lt, jw_le, jw_eq, jw_div, Int.toNat_natCast, if_pos, if_neg, if_true, if_false, Option.bind_some, Int.natCast_add, Int.natCast_mul, Int.cast_ofNat_Int, Int.reduceToNat, Int.reduceAdd, Int.reduceMul, Int.reduceSub, Int.reduceNeg, Nat.reduceAdd, Nat.reduceMul, core d (by unfold eW5; rw [if_neg c1, if_neg c2, if_neg c3, if_pos c4])]
    · simp (disch := omega) only [Bool.false_eq_true, jz_lit, jz_neg, jz_nat, jz_add, jz_sub, jz_mul, jz_lt, jz_le, jz_eq, jz_ix, jin_z, jz_div, jzw, jwz, jw_lit, jw_neg, jw_add, jw_sub, jw_mul, jw_lt, jw_le, jw_eq, jw_div, Int.toNat_natCast, if_pos, if_neg, if_true, if_false, Option.bind_some, Int.natCast_add, Int.natCast_mul, Int.cast_ofNat_Int, Int.reduceToNat, Int.reduceAdd, Int.reduceMul, Int.reduceSub, Int.reduceNeg, Nat.reduceAdd, Nat.reduceMul, core e (by unfold eW5; rw [if_neg c1, if_neg c2, if_neg c3, if_neg c4])]
  · intro x A
    refine ⟨x, ?_, A⟩
    simp only [fM_feed_l28, fM_feed_l28_b]
    simp (disch := omega) only [Bool.false_eq_true, jz_lit, jz_neg, jz_nat, jz_add, jz_sub, jz_mul, jz_lt, jz_le, jz_eq, jz_ix, jin_z, jz_div, jzw, jwz, jw_lit, jw_neg, jw_add, jw_sub, jw_mul, jw_lt, jw_le, jw_eq, jw_div, Int.toNat_natCast, if_pos, if_neg, if_true, if_false, Option.bind_some, Int.natCast_add, Int.natCast_mul, Int.cast_ofNat_Int, Int.reduceToNat, Int.reduceAdd, Int.reduceMul, Int.reduceSub, Int.reduceNeg, Nat.reduceAdd, Nat.reduceMul]
end EP5
theorem call_0 : jcal_0 jInv := by
  intro p d q h a0 a1 a2 a3 a4 V
  have V0 := V
  obtain ⟨hpd, hq, v1, v2, v3, v4, v5, v6, v7⟩ := V
  obtain ⟨n, T, n1, n2, n3, n4⟩ := v2
  by_cases g : n + 20 ≤ 1600
  · obtain ⟨h1, e1, b1⟩ := sTp_putFour (h := h) (o := 2) a0 jss_3 n2 (by omega) (by omega)
    obtain ⟨h2, e2, b2⟩ := sTp_putFour (h := h1) (o := 2) a1 jss_3 b1.1 (show n + 4 + 3 < 1600 by omega) (by omega)
    obtain ⟨h3, e3, b3⟩ := sTp_putFour (h := h2) (o := 2) a2 jss_3 b2.1 (show n + 4 + 4 + 3 < 1600 by omega) (by omega)
    obtain ⟨h4, e4, b4⟩ := sTp_putFour (h := h3) (o := 2) a3 jss_3 b3.1 (show n + 4 + 4 + 4 + 3 < 1600 by omega) (by omega)
    obtain ⟨h5, e5, b5⟩ := sTp_putFour (h := h4) (o := 2) a4 jss_3 b4.1 (show n + 4 + 4 + 4 + 4 + 3 < 1600 by omega) (by omega)
    have B : eApp 2 1 3 n ((List.range 20).map (eF5 a0 a1 a2 a3 a4)) h h5 := by
      rw [eF5_list]
      exact eApp_trans (by omega) b1 (eApp_trans (by omega) b2 (eApp_trans (by omega) b3 (eApp_trans (by omega) b4 b5)))
    have m3 : h5.1 110 1 = jz n := by rw [B.2.2.1 _ _ (by omega) (by omega)]; exact n3
    obtain ⟨h6, e6, C⟩ := sM_feedl (a := a0) (b := a1) (c := a2) (d := a3) (e := a4) (h := h5) m3 g
    have B1 := B.1
    have C1 := C.1
    rw [List.length_map, List.length_range] at B1 C1
    have F : ∀ o k, ¬ (o = 2 ∧ k = 1) → ¬ (o = 3) → ¬ (o = 110 ∧ k = 1) → ¬ (o = 111) → h6.1 o k = h.1 o k := fun o k x1 x2 x3 x4 => by
      rw [C.2.2.1 _ _ x3 (fun t => x4 t.1), B.2.2.1 _ _ x1 (fun t => x2 t.1)]
    have F2 : h6.2 = h.2 := C.2.2.2.trans B.2.2.2
    refine ⟨(jz ((n + 20 : Nat) : Int), h5), ?_, (jz ((n + 20 : Nat) : Int), h6), ?_, rfl, ?_⟩
    · unfold fA_feed fTp_size
      rw [n2]
      simp (disch := omega) only [Bool.false_eq_true, jz_lit, jz_neg, jz_nat, jz_add, jz_sub, jz_mul, jz_lt, jz_le, jz_eq, jz_ix, jin_z, jz_div, jzw, jwz, jw_lit, jw_neg, jw_add, jw_sub, jw_mul, jw_lt, jw_le, jw_eq, jw_div, Int.toNat_natCast, if_pos, if_neg, if_true, if_false, Option.bind_some, Int.natCast_add, Int.natCast_mul, Int.cast_ofNat_Int, Int.reduceToNat, Int.reduceAdd, Int.reduceMul, Int.reduceSub, Int.reduceNeg, Nat.reduceAdd, Nat.reduceMul, e1, e2, e3, e4, e5, B1]
    · have e6' : jlim (fM_feed_l28 a0 a1 a2 a3 a4) (jz 0, h5) = some h6 := e6
      show fM_feed a0 a1 a2 a3 a4 h5 = _
      unfold fM_feed
      rw [m3]
      simp (disch := omega) only [Bool.false_eq_true, jz_lit, jz_neg, jz_nat, jz_add, jz_sub, jz_mul, jz_lt, jz_le, jz_eq, jz_ix, jin_z, jz_div, jzw, jwz, jw_lit, jw_neg, jw_add, jw_sub, jw_mul, jw_lt, jw_le, jw_eq, jw_div, Int.toNat_natCast, if_pos, if_neg, if_true, if_false, Option.bind_some, Int.natCast_add, Int.natCast_mul, Int.cast_ofNat_Int, Int.reduceToNat, Int.reduceAdd, Int.reduceMul, Int.reduceSub, Int.reduceNeg, Nat.reduceAdd, Nat.reduceMul, e6', C1]
    · have hpd2 := hpd
      unfold iPD at hpd2
      refine ⟨hpd, hq, eWd_fr (fun o k hk => F _ _ (by omega) (by omega) (by omega) (by omega)) v1, ⟨n + 20, fun k => if k < n then T k else eF5 a0 a1 a2 a3 a4 (k - n), g, ?_, C1, fun k hk => ?_⟩, iFault_fr (fun o k hk => F _ _ (by omega) (by omega) (by omega) (by omega)) v3, iRef_fr (fun o k hk => F _ _ (by omega) (by omega) (by omega) (by omega)) v4, iSeed_fr (F _ _ (by omega) (by omega) (by omega) (by omega)) (by rw [F2]) v5, iPic_fr (fun o k hk => F _ _ (by omega) (by omega) (by omega) (by omega)) v6, iWed_fr hq (fun o k hk => F _ _ ?_ ?_ ?_ ?_) (fun k _ => by rw [F2]) v7⟩
      · rw [C.2.2.1 _ _ (by omega) (by omega)]; exact B1
      · by_cases c : k < n
        · have := n4 k c
          simp only [c, if_true]
          refine ⟨this.1, ?_, ?_⟩
          · rw [C.2.2.1 _ _ (by omega) (by omega), B.2.2.1 _ _ (by omega) (by omega)]; exact this.2.1
          · rw [C.2.2.1 _ _ (by omega) (by omega), B.2.2.1 _ _ (by omega) (by omega)]; exact this.2.2
        · simp only [c, if_false]
          have hb := B.2.1 (k - n) (by rw [List.length_map, List.length_range]; omega)
          have hc := C.2.1 (k - n) (by rw [List.length_map, List.length_range]; omega)
          have hg : ((List.range 20).map (eF5 a0 a1 a2 a3 a4)).getD (k - n) 0 = eF5 a0 a1 a2 a3 a4 (k - n) := by
            rw [List.getD_eq_getElem?_getD, List.getElem?_map, List.getElem?_range (by omega)]
            rfl
          rw [hg, show n + (k - n) = k by omega] at hb hc
          refine ⟨(eB_spec _).2, ?_, hc⟩
          rw [C.2.2.1 _ _ (by omega) (by omega)]; exact hb
      all_goals (rcases hk with (hk | hk | hk) | hk | hk <;> omega)
  · refine ⟨(jz (-1), jhI h 97 0 (h.1 97 0 + 1)), ?_, (jz (-1), jhI (jhI h 97 0 (h.1 97 0 + 1)) 112 0 (h.1 112 0 + 1)), ?_, rfl, eInv_ref V0 (by omega)⟩
    · have r : fA_refuse (jz 0) h = some (jhI h 97 0 (h.1 97 0 + 1)) := sA_refuse (k := 0) (by omega) h
      generalize jhI h 97 0 (h.1 97 0 + 1) = y at *
      unfold fA_feed fTp_size
      rw [n2]
      simp (disch := omega) only [Bool.false_eq_true, jz_lit, jz_neg, jz_nat, jz_add, jz_sub, jz_mul, jz_lt, jz_le, jz_eq, jz_ix, jin_z, jz_div, jzw, jwz, jw_lit, jw_neg, jw_add, jw_sub, jw_mul, jw_lt, jw_le, jw_eq, jw_div, Int.toNat_natCast, if_pos, if_neg, if_true, if_false, Option.bind_some, Int.natCast_add, Int.natCast_mul, Int.cast_ofNat_Int, Int.reduceToNat, Int.reduceAdd, Int.reduceMul, Int.reduceSub, Int.reduceNeg, Nat.reduceAdd, Nat.reduceMul, r]
    · have m3 : (jhI h 97 0 (h.1 97 0 + 1)).1 110 1 = jz n := n3
      have hy : (jhI h 97 0 (h.1 97 0 + 1)).1 112 0 = h.1 112 0 := rfl
      show fM_feed a0 a1 a2 a3 a4 (jhI h 97 0 (h.1 97 0 + 1)) = some (jz (-1), jhI (jhI h 97 0 (h.1 97 0 + 1)) 112 0 (h.1 112 0 + 1))
      generalize jhI h 97 0 (h.1 97 0 + 1) = y at *
      unfold fM_feed
      rw [m3]
      simp (disch := omega) only [Bool.false_eq_true, jz_lit, jz_neg, jz_nat, jz_add, jz_sub, jz_mul, jz_lt, jz_le, jz_eq, jz_ix, jin_z, jz_div, jzw, jwz, jw_lit, jw_neg, jw_add, jw_sub, jw_mul, jw_lt, jw_le, jw_eq, jw_div, Int.toNat_natCast, if_pos, if_neg, if_true, if_false, Option.bind_some, Int.natCast_add, Int.natCast_mul, Int.cast_ofNat_Int, Int.reduceToNat, Int.reduceAdd, Int.reduceMul, Int.reduceSub, Int.reduceNeg, Nat.reduceAdd, Nat.reduceMul, hy]
