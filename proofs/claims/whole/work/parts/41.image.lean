/-! A picture of how it stands -/
def eBd (S : jD) : Nat → List Nat
  | 0 => []
  | k + 1 => eBd S k ++ [(S 1 k).toNat, (S 2 k).toNat / 256, (S 2 k).toNat % 256]
def eFt (S : jD) : Nat := if S 0 2 = -1 then 65535 else (S 0 2).toNat
def eImH (S : jD) : List Nat := [(S 0 1).toNat / 256, (S 0 1).toNat % 256] ++ [eFt S / 256, eFt S % 256]
theorem eBd_len (S : jD) : ∀ k, (eBd S k).length = 3 * k := by
  intro k
  induction k with
  | zero => rfl
  | succ k ih => rw [eBd, List.length_append, ih]; rfl
def eCk (f : Nat → Nat) : Nat → Nat
  | 0 => 67
  | n + 1 => (3 * eCk f n + f n) % 251
theorem eCk_lt (f : Nat → Nat) : ∀ n, eCk f n < 251 := by
  intro n
  cases n with
  | zero => show (67 : Nat) < 251; omega
  | succ n => rw [eCk]; omega
theorem eCk_eq {f f' : Nat → Nat} : ∀ n, (∀ k, k < n → f k = f' k) → eCk f n = eCk f' n := by
  intro n
  induction n with
  | zero => intro _; rfl
  | succ n ih => intro e; rw [eCk, eCk, ih (fun k hk => e k (by omega)), e n (by omega)]
section EIM
variable {p g : Nat} {D S : jD} {h : jH}
theorem sTp_checkOf {o c m n : Nat} {f : Nat → Nat} (hm : h.1 o 1 = jz m) (hc : (jsh (o + 1)).2 = c) (hmc : m ≤ c) (hc2 : c < 10000) (hn : n ≤ m) (hf : ∀ k, k < n → f k < 256 ∧ h.1 (o + 1) k = jz (f k)) : fTp_checkOf o (jz n) h = some (jz (eCk f n)) := by
  have hl := jlim_cnt (step := fTp_checkOf_l5 o (jz n) h) (fun k (_ : Unit) => (jz (eCk f k), jz k)) (fun _ _ => True) (fun x => x = jz (eCk f n)) n n 0 (by omega) () trivial ?_ ?_
  · obtain ⟨x, e, rfl⟩ := hl
    have e' : jlim (fTp_checkOf_l5 o (jz n) h) (jz 67, jz 0) = some (jz (eCk f n)) := e
    unfold fTp_checkOf
    simp (disch := omega) only [Bool.false_eq_true, jz_lit, jz_neg, jz_nat, jz_add, jz_sub, jz_mul, jz_lt, jz_le, jz_eq, jz_ix, jin_z, jz_div, jzw, jwz, jw_lit, jw_neg, jw_add, jw_sub, jw_mul, jw_lt, jw_le, jw_eq, jw_div, Int.toNat_natCast, if_pos, if_neg, if_true, if_false, Option.bind_some, Int.natCast_add, Int.natCast_mul, Int.cast_ofNat_Int, Int.reduceToNat, Int.reduceAdd, Int.reduceMul, Int.reduceSub, Int.reduceNeg, Nat.reduceAdd, Nat.reduceMul, e']
  · intro k _ _ hk _
    have hb := hf k hk
    have hq := eCk_lt f k
    have b := sTp_byteAt (o := o) (k := k) hm hc hmc hc2 (by omega) (by omega)
    rw [if_pos (by omega), Int.toNat_natCast, hb.2] at b
    refine ⟨(), ?_, trivial⟩
    have e1 : eCk f (k + 1) = (3 * eCk f k + f k) % 251 := rfl
    simp only [fTp_checkOf_l5, fTp_checkOf_l5_b]
    rw [hm]
    have ed : (3 * ((eCk f k : Nat) : Int) + ((f k : Nat) : Int)).tdiv 251 = (3 * ((eCk f k : Nat) : Int) + ((f k : Nat) : Int)) / 251 := tdiv_nn (by omega)
    have h251 : (3 * ((eCk f k : Nat) : Int) + ((f k : Nat) : Int)) - (3 * ((eCk f k : Nat) : Int) + ((f k : Nat) : Int)) / 251 * 251 = ((eCk f (k + 1) : Nat) : Int) := by omega
    simp (disch := omega) only [Bool.false_eq_true, jz_lit, jz_neg, jz_nat, jz_add, jz_sub, jz_mul, jz_lt, jz_le, jz_eq, jz_ix, jin_z, jz_div, jzw, jwz, jw_lit, jw_neg, jw_add, jw_sub, jw_mul, jw_lt, jw_le, jw_eq, jw_div, Int.toNat_natCast, if_pos, if_neg, if_true, if_false, Option.bind_some, Int.natCast_add, Int.natCast_mul, Int.cast_ofNat_Int, Int.reduceToNat, Int.reduceAdd, Int.reduceMul, Int.reduceSub, Int.reduceNeg, Nat.reduceAdd, Nat.reduceMul, b, ed, h251]
  · intro _ _
    refine ⟨_, ?_, rfl⟩
    simp only [fTp_checkOf_l5, fTp_checkOf_l5_b]
    simp (disch := omega) only [Bool.false_eq_true, jz_lit, jz_neg, jz_nat, jz_add, jz_sub, jz_mul, jz_lt, jz_le, jz_eq, jz_ix, jin_z, jz_div, jzw, jwz, jw_lit, jw_neg, jw_add, jw_sub, jw_mul, jw_lt, jw_le, jw_eq, jw_div, Int.toNat_natCast, if_pos, if_neg, if_true, if_false, Option.bind_some, Int.natCast_add, Int.natCast_mul, Int.cast_ofNat_Int, Int.reduceToNat, Int.reduceAdd, Int.reduceMul, Int.reduceSub, Int.reduceNeg, Nat.reduceAdd, Nat.reduceMul]
theorem sM_checked {o c n : Nat} {f : Nat → Nat} (hc : (jsh o).2 = c) (hc2 : c < 10000) (hn : n ≤ c) (hf : ∀ k, k < n → f k < 256 ∧ h.1 o k = jz (f k)) : fM_checked o (jz n) h = some (jz (eCk f n)) := by
  have hl := jlim_cnt (step := fM_checked_l5 o (jz n) h) (fun k (_ : Unit) => (jz (eCk f k), jz k)) (fun _ _ => True) (fun x => x = jz (eCk f n)) n n 0 (by omega) () trivial ?_ ?_
  · obtain ⟨x, e, rfl⟩ := hl
    have e' : jlim (fM_checked_l5 o (jz n) h) (jz 67, jz 0) = some (jz (eCk f n)) := e
    unfold fM_checked
    simp (disch := omega) only [Bool.false_eq_true, jz_lit, jz_neg, jz_nat, jz_add, jz_sub, jz_mul, jz_lt, jz_le, jz_eq, jz_ix, jin_z, jz_div, jzw, jwz, jw_lit, jw_neg, jw_add, jw_sub, jw_mul, jw_lt, jw_le, jw_eq, jw_div, Int.toNat_natCast, if_pos, if_neg, if_true, if_false, Option.bind_some, Int.natCast_add, Int.natCast_mul, Int.cast_ofNat_Int, Int.reduceToNat, Int.reduceAdd, Int.reduceMul, Int.reduceSub, Int.reduceNeg, Nat.reduceAdd, Nat.reduceMul, e']
  · intro k _ _ hk _
    have hb := hf k hk
    have hq := eCk_lt f k
    refine ⟨(), ?_, trivial⟩
    have e1 : eCk f (k + 1) = (3 * eCk f k + f k) % 251 := rfl
    simp only [fM_checked_l5, fM_checked_l5_b]
    rw [hc]
    have ed : (3 * ((eCk f k : Nat) : Int) + ((f k : Nat) : Int)).tdiv 251 = (3 * ((eCk f k : Nat) : Int) + ((f k : Nat) : Int)) / 251 := tdiv_nn (by omega)
    have h251 : (3 * ((eCk f k : Nat) : Int) + ((f k : Nat) : Int)) - (3 * ((eCk f k : Nat) : Int) + ((f k : Nat) : Int)) / 251 * 251 = ((eCk f (k + 1) : Nat) : Int) := by omega
    simp (disch := omega) only [Bool.false_eq_true, jz_lit, jz_neg, jz_nat, jz_add, jz_sub, jz_mul, jz_lt, jz_le, jz_eq, jz_ix, jin_z, jz_div, jzw, jwz, jw_lit, jw_neg, jw_add, jw_sub, jw_mul, jw_lt, jw_le, jw_eq, jw_div, Int.toNat_natCast, if_pos, if_neg, if_true, if_false, Option.bind_some, Int.natCast_add, Int.natCast_mul, Int.cast_ofNat_Int, Int.reduceToNat, Int.reduceAdd, Int.reduceMul, Int.reduceSub, Int.reduceNeg, Nat.reduceAdd, Nat.reduceMul, hb.2, ed, h251]
  · intro _ _
    refine ⟨_, ?_, rfl⟩
    simp only [fM_checked_l5, fM_checked_l5_b]
    simp (disch := omega) only [Bool.false_eq_true, jz_lit, jz_neg, jz_nat, jz_add, jz_sub, jz_mul, jz_lt, jz_le, jz_eq, jz_ix, jin_z, jz_div, jzw, jwz, jw_lit, jw_neg, jw_add, jw_sub, jw_mul, jw_lt, jw_le, jw_eq, jw_div, Int.toNat_natCast, if_pos, if_neg, if_true, if_false, Option.bind_some, Int.natCast_add, Int.natCast_mul, Int.cast_ofNat_Int, Int.reduceToNat, Int.reduceAdd, Int.reduceMul, Int.reduceSub, Int.reduceNeg, Nat.reduceAdd, Nat.reduceMul]
theorem sM_writes {n : Nat} (b : Nat) (hn : h.1 110 90 = jz n) (hc : n < 29) : ∃ h', fM_writes (jz b) h = some h' ∧ eApp 110 90 176 n [b] h h' := by
  refine ⟨_, ?_, eApp_one (by omega) b⟩
  unfold fM_writes
  rw [hn]
  simp (disch := omega) only [Bool.false_eq_true, jz_lit, jz_neg, jz_nat, jz_add, jz_sub, jz_mul, jz_lt, jz_le, jz_eq, jz_ix, jin_z, jz_div, jzw, jwz, jw_lit, jw_neg, jw_add, jw_sub, jw_mul, jw_lt, jw_le, jw_eq, jw_div, Int.toNat_natCast, if_pos, if_neg, if_true, if_false, Option.bind_some, Int.natCast_add, Int.natCast_mul, Int.cast_ofNat_Int, Int.reduceToNat, Int.reduceAdd, Int.reduceMul, Int.reduceSub, Int.reduceNeg, Nat.reduceAdd, Nat.reduceMul]
  rw [jhI_1, if_neg (by omega), hn, jz_add]
theorem sM_writesTwo {n w : Nat} (hw : w ≤ 65535) (hn : h.1 110 90 = jz n) (hc : n + 1 < 29) : ∃ h', fM_writesTwo (jz w) h = some h' ∧ eApp 110 90 176 n [w / 256, w % 256] h h' := by
  obtain ⟨h1, e1, a1⟩ := sM_writes (w / 256) hn (by omega)
  obtain ⟨h2, e2, a2⟩ := sM_writes (w % 256) a1.1 (show n + 1 < 29 by omega)
  refine ⟨h2, ?_, eApp_trans (a := [w / 256]) (b := [w % 256]) (by omega) a1 a2⟩
  have x1 : (w : Int).tdiv 256 = ((w / 256 : Nat) : Int) := by rw [tdiv_nn (by omega)]; omega
  have x2 : (w : Int) - ((w / 256 : Nat) : Int) * 256 = ((w % 256 : Nat) : Int) := by omega
  unfold fM_writesTwo
  simp (disch := omega) only [Bool.false_eq_true, jz_lit, jz_neg, jz_nat, jz_add, jz_sub, jz_mul, jz_lt, jz_le, jz_eq, jz_ix, jin_z, jz_div, jzw, jwz, jw_lit, jw_neg, jw_add, jw_sub, jw_mul, jw_lt, jw_le, jw_eq, jw_div, Int.toNat_natCast, if_pos, if_neg, if_true, if_false, Option.bind_some, Int.natCast_add, Int.natCast_mul, Int.cast_ofNat_Int, Int.reduceToNat, Int.reduceAdd, Int.reduceMul, Int.reduceSub, Int.reduceNeg, Nat.reduceAdd, Nat.reduceMul, x1, e1, x2, e2]
theorem sTp_putN {o c n b : Nat} (hb : b < 256) (hc : (jsh (o + 1)).2 = c) (hn : h.1 o 1 = jz n) (hnc : n < c) (hc2 : c ≤ 2000) : ∃ h', fTp_put o (jz b) h = some h' ∧ eApp o 1 (o + 1) n [b] h h' := by
  obtain ⟨h1, e1, a1⟩ := sTp_put (h := h) (jz b) hc hn hnc hc2
  rw [eB_jz (by omega), Nat.mod_eq_of_lt hb] at a1
  exact ⟨h1, e1, a1⟩
theorem sTp_putW {o c n w : Nat} (hw : w ≤ 65535) (hc : (jsh (o + 1)).2 = c) (hn : h.1 o 1 = jz n) (hnc : n + 1 < c) (hc2 : c ≤ 2000) : ∃ h', fTp_putPair o (jz w) h = some h' ∧ eApp o 1 (o + 1) n [w / 256, w % 256] h h' := by
  obtain ⟨h1, e1, a1⟩ := sTp_putPair (h := h) (jz w) hc hn hnc hc2
  have x : (jz w >>> ((8 : Int32) &&& 31)) = jz ((w / 256 : Nat) : Int) := jbit_shr (k := 8) (by omega) (by omega)
  rw [x, eB_jz (by omega), eB_jz (by omega), Nat.mod_eq_of_lt (show w / 256 < 256 by omega)] at a1
  exact ⟨h1, e1, a1⟩
theorem sSd_imgl {n : Nat} {ls : List Nat} (bs : bS g S) (hg : g ≤ 8) (cs : cS 11 S h) {h1 : jH} (A : eApp 4 1 5 n ls h h1) (hn : n + ls.length = 4) : ∃ h', jlim (fSd_writeImage_l31 11 4 (jz g)) (jz 0, h1) = some h' ∧ eApp 4 1 5 n (ls ++ eBd S g) h h' := by
  have hl := jlim_cnt (step := fSd_writeImage_l31 11 4 (jz g)) (fun k (x : jH) => (jz k, x)) (fun k x => eApp 4 1 5 n (ls ++ eBd S k) h x) (fun x => eApp 4 1 5 n (ls ++ eBd S g) h x) g g 0 (by omega) h1 (by rw [eBd, List.append_nil]; exact A) ?_ ?_
  · exact hl
  · intro k x _ hk A
    have b := bs.2.2.2.2 k (by omega)
    have c := cs.2.2 k (by omega)
    have len : n + (ls ++ eBd S k).length = 4 + 3 * k := by rw [List.length_append, eBd_len]; omega
    have A1 := A.1
    rw [len] at A1
    obtain ⟨h2, e2, a2⟩ := sTp_putN (h := x) (o := 4) (b := (S 1 k).toNat) (by omega) jss_5 A1 (by omega) (by omega)
    obtain ⟨h3, e3, a3⟩ := sTp_putW (h := h2) (o := 4) (w := (S 2 k).toNat) (by omega) jss_5 a2.1 (show 4 + 3 * k + 1 + 1 < 29 by omega) (by omega)
    rw [Int.toNat_of_nonneg (by omega)] at e2 e3
    have r1 : x.1 12 k = jz (S 1 k) := by rw [A.2.2.1 _ _ (by omega) (by omega)]; exact c.1
    have r2 : h2.1 13 k = jz (S 2 k) := by rw [a2.2.2.1 _ _ (by omega) (by omega), A.2.2.1 _ _ (by omega) (by omega)]; exact c.2
    refine ⟨h3, ?_, ?_⟩
    · simp only [fSd_writeImage_l31, fSd_writeImage_l31_b]
      simp (disch := omega) only [Bool.false_eq_true, jz_lit, jz_neg, jz_nat, jz_add, jz_sub, jz_mul, jz_lt, jz_le, jz_eq, jz_ix, jin_z, jz_div, jzw, jwz, jw_lit, jw_neg, jw_add, jw_sub, jw_mul, jw_lt, jw_le, jw_eq, jw_div, Int.toNat_natCast, if_pos, if_neg, if_true, if_false, Option.bind_some, Int.natCast_add, Int.natCast_mul, Int.cast_ofNat_Int, Int.reduceToNat, Int.reduceAdd, Int.reduceMul, Int.reduceSub, Int.reduceNeg, Nat.reduceAdd, Nat.reduceMul, r1, e2, r2, e3]
    · have B := eApp_trans (by omega) A (b := [(S 1 k).toNat] ++ [(S 2 k).toNat / 256, (S 2 k).toNat % 256]) (by rw [len]; exact eApp_trans (by omega) a2 a3)
      rw [List.append_assoc] at B
      exact B
  · intro x A
    refine ⟨x, ?_, A⟩
    simp only [fSd_writeImage_l31, fSd_writeImage_l31_b]
    simp (disch := omega) only [Bool.false_eq_true, jz_lit, jz_neg, jz_nat, jz_add, jz_sub, jz_mul, jz_lt, jz_le, jz_eq, jz_ix, jin_z, jz_div, jzw, jwz, jw_lit, jw_neg, jw_add, jw_sub, jw_mul, jw_lt, jw_le, jw_eq, jw_div, Int.toNat_natCast, if_pos, if_neg, if_true, if_false, Option.bind_some, Int.natCast_add, Int.natCast_mul, Int.cast_ofNat_Int, Int.reduceToNat, Int.reduceAdd, Int.reduceMul, Int.reduceSub, Int.reduceNeg, Nat.reduceAdd, Nat.reduceMul]
theorem sM_imgl {n : Nat} {ls : List Nat} (bs : bS g S) (hg : g ≤ 8) (mg : mV g D h) (ms : mS S h) {h1 : jH} (A : eApp 110 90 176 n ls h h1) (hn : n + ls.length = 4) : ∃ h', jlim fM_image_l43 (jz 0, h1) = some h' ∧ eApp 110 90 176 n (ls ++ eBd S g) h h' := by
  have fr : ∀ {b : List Nat} {x : jH}, eApp 110 90 176 n b h x → mV g D x ∧ mS S x := fun {b x} A => ⟨mV_fr (fun o k hk => A.2.2.1 _ _ (by omega) (by omega)) mg, mS_fr (fun k => A.2.2.1 _ _ (by omega) (by omega)) ms⟩
  have hl := jlim_cnt (step := fM_image_l43) (fun k (x : jH) => (jz k, x)) (fun k x => eApp 110 90 176 n (ls ++ eBd S k) h x) (fun x => eApp 110 90 176 n (ls ++ eBd S g) h x) g g 0 (by omega) h1 (by rw [eBd, List.append_nil]; exact A) ?_ ?_
  · exact hl
  · intro k x _ hk A
    have b := bs.2.2.2.2 k (by omega)
    have len : n + (ls ++ eBd S k).length = 4 + 3 * k := by rw [List.length_append, eBd_len]; omega
    have A1 := A.1
    rw [len] at A1
    obtain ⟨h2, e2, a2⟩ := sM_writes (h := x) (S 1 k).toNat A1 (by omega)
    have A2 := eApp_trans (by omega) A (b := [(S 1 k).toNat]) (by rw [len]; exact a2)
    obtain ⟨h3, e3, a3⟩ := sM_writesTwo (h := h2) (w := (S 2 k).toNat) (by omega) a2.1 (show 4 + 3 * k + 1 + 1 < 29 by omega)
    rw [Int.toNat_of_nonneg (by omega)] at e2 e3
    obtain ⟨u1, u2⟩ := fr A
    obtain ⟨w1, w2⟩ := fr A2
    refine ⟨h3, ?_, ?_⟩
    · simp only [fM_image_l43, fM_image_l43_b, fM_image_l43_j78]
      by_cases c : S 1 k = 0
      · have z := b.2.2.2.2.1 c
        rw [z] at e3
        have ia := sM_isAsked (k := k) w2 bs (by omega)
        rw [if_pos c] at ia
        simp (disch := omega) only [Bool.false_eq_true, jz_lit, jz_neg, jz_nat, jz_add, jz_sub, jz_mul, jz_lt, jz_le, jz_eq, jz_ix, jin_z, jz_div, jzw, jwz, jw_lit, jw_neg, jw_add, jw_sub, jw_mul, jw_lt, jw_le, jw_eq, jw_div, Int.toNat_natCast, if_pos, if_neg, if_true, if_false, Option.bind_some, Int.natCast_add, Int.natCast_mul, Int.cast_ofNat_Int, Int.reduceToNat, Int.reduceAdd, Int.reduceMul, Int.reduceSub, Int.reduceNeg, Nat.reduceAdd, Nat.reduceMul, sM_guestMany u1, sM_howOf u2 (show k < 8 by omega), e2, ia, e3]
      · have ia := sM_isAsked (k := k) w2 bs (by omega)
        rw [if_neg c] at ia
        simp (disch := omega) only [Bool.false_eq_true, jz_lit, jz_neg, jz_nat, jz_add, jz_sub, jz_mul, jz_lt, jz_le, jz_eq, jz_ix, jin_z, jz_div, jzw, jwz, jw_lit, jw_neg, jw_add, jw_sub, jw_mul, jw_lt, jw_le, jw_eq, jw_div, Int.toNat_natCast, if_pos, if_neg, if_true, if_false, Option.bind_some, Int.natCast_add, Int.natCast_mul, Int.cast_ofNat_Int, Int.reduceToNat, Int.reduceAdd, Int.reduceMul, Int.reduceSub, Int.reduceNeg, Nat.reduceAdd, Nat.reduceMul, sM_guestMany u1, sM_howOf u2 (show k < 8 by omega), e2, ia, sM_weeksOf w2 (show k < 8 by omega), e3]
    · have B := eApp_trans (by omega) A (b := [(S 1 k).toNat] ++ [(S 2 k).toNat / 256, (S 2 k).toNat % 256]) (by rw [len]; exact eApp_trans (by omega) a2 a3)
      rw [List.append_assoc] at B
      exact B
  · intro x A
    obtain ⟨u1, u2⟩ := fr A
    refine ⟨x, ?_, A⟩
    simp only [fM_image_l43, fM_image_l43_b]
    simp (disch := omega) only [Bool.false_eq_true, jz_lit, jz_neg, jz_nat, jz_add, jz_sub, jz_mul, jz_lt, jz_le, jz_eq, jz_ix, jin_z, jz_div, jzw, jwz, jw_lit, jw_neg, jw_add, jw_sub, jw_mul, jw_lt, jw_le, jw_eq, jw_div, Int.toNat_natCast, if_pos, if_neg, if_true, if_false, Option.bind_some, Int.natCast_add, Int.natCast_mul, Int.cast_ofNat_Int, Int.reduceToNat, Int.reduceAdd, Int.reduceMul, Int.reduceSub, Int.reduceNeg, Nat.reduceAdd, Nat.reduceMul, sM_guestMany u1]
def eIm0 (S : jD) (g : Nat) : List Nat := eImH S ++ eBd S g
def eIm (S : jD) (g : Nat) : List Nat := eIm0 S g ++ [eCk (fun k => (eIm0 S g).getD k 0) (4 + 3 * g)]
theorem eIm0_len (S : jD) (g : Nat) : (eIm0 S g).length = 4 + 3 * g := by
  rw [eIm0, List.length_append, eBd_len]
  rfl
theorem eIm_len (S : jD) (g : Nat) : (eIm S g).length = 5 + 3 * g := by
  rw [eIm, List.length_append, eIm0_len]
  simp only [List.length_cons, List.length_nil]
  omega
theorem eIm0_lt (bs : bS g S) (hg : g ≤ 8) : ∀ k, (eIm0 S g).getD k 0 < 256 := by
  have ft : eFt S ≤ 65535 := by
    have := bs.1; have := bs.2.1; have := bs.2.2.1; have := bs.2.2.2.1
    unfold eFt; split <;> omega
  have all : ∀ b ∈ eIm0 S g, b < 256 := by
    intro b hb
    rw [eIm0, List.mem_append] at hb
    rcases hb with hb | hb
    · have := bs.1; have := bs.2.1
      simp only [eImH, List.mem_append, List.mem_cons, List.not_mem_nil, or_false] at hb
      omega
    · have : ∀ k, k ≤ g → b ∈ eBd S k → b < 256 := by
        intro k
        induction k with
        | zero => intro _ hx; exact absurd hx List.not_mem_nil
        | succ k ih =>
          intro hk hx
          have q := bs.2.2.2.2 k (by omega)
          rw [eBd, List.mem_append] at hx
          rcases hx with hx | hx
          · exact ih (by omega) hx
          · simp only [List.mem_cons, List.not_mem_nil, or_false] at hx
            omega
      exact this g (Nat.le_refl _) hb
  intro k
  by_cases c : k < (eIm0 S g).length
  · rw [List.getD_eq_getElem?_getD, List.getElem?_eq_getElem c]
    exact all _ (List.getElem_mem c)
  · rw [List.getD_eq_getElem?_getD, List.getElem?_eq_none (by omega)]
    show (0 : Nat) < 256
    omega
theorem eFt_z (bs : bS g S) : (if S 0 2 = -1 then jz 65535 else jz (S 0 2)) = jz (eFt S) ∧ eFt S ≤ 65535 := by
  have := bs.1; have := bs.2.1; have := bs.2.2.1; have := bs.2.2.2.1
  unfold eFt
  by_cases c : S 0 2 = -1
  · rw [if_pos c, if_pos c]; exact ⟨rfl, by omega⟩
  · rw [if_neg c, if_neg c, Int.toNat_of_nonneg (by omega)]; exact ⟨rfl, by omega⟩
theorem sA_image (bs : bS g S) (hg : g ≤ 8) (cg : h.1 p 0 = jz g) (hp : 20 ≤ p) (cs : cS 11 S h) {m : Nat} (hm : m ≤ 29) (hm2 : h.1 4 1 = jz m) : ∃ h', fA_image p h = some (jz ((5 + 3 * g : Nat) : Int), h') ∧ eApp 4 1 5 0 (eIm S g) (jhI h 4 1 (jz 0)) h' := by
  have b1 := bs.1; have b2 := bs.2.1; have b3 := bs.2.2.1; have b4 := bs.2.2.2.1
  have hcut : fTp_cut 4 (jz 0) h = jhI h 4 1 (jz 0) := by
    unfold fTp_cut
    rw [hm2]
    simp (disch := omega) only [Bool.false_eq_true, jz_lit, jz_neg, jz_nat, jz_add, jz_sub, jz_mul, jz_lt, jz_le, jz_eq, jz_ix, jin_z, jz_div, jzw, jwz, jw_lit, jw_neg, jw_add, jw_sub, jw_mul, jw_lt, jw_le, jw_eq, jw_div, Int.toNat_natCast, if_pos, if_neg, if_true, if_false, Option.bind_some, Int.natCast_add, Int.natCast_mul, Int.cast_ofNat_Int, Int.reduceToNat, Int.reduceAdd, Int.reduceMul, Int.reduceSub, Int.reduceNeg, Nat.reduceAdd, Nat.reduceMul]
  have hcut' : fTp_cut 4 0 h = jhI h 4 1 (jz 0) := hcut
  have y0 : (jhI h 4 1 (jz 0)).1 4 1 = jz 0 := by rw [jhI_1, if_pos ⟨rfl, rfl⟩]
  have y1 : (jhI h 4 1 (jz 0)).1 p 0 = jz g := by rw [jhI_1, if_neg (by omega)]; exact cg
  have y2 : cS 11 S (jhI h 4 1 (jz 0)) := cS_fr (fun o k hk => by rw [jhI_1, if_neg (by omega)]) cs
  unfold fA_image
  rw [hcut', y1]
  generalize jhI h 4 1 (jz 0) = y at *
  obtain ⟨h1, e1, a1⟩ := sTp_putW (h := y) (o := 4) (n := 0) (w := (S 0 1).toNat) (by omega) jss_5 y0 (by omega) (by omega)
  obtain ⟨ft1, ft2⟩ := eFt_z bs
  obtain ⟨h2, e2, a2⟩ := sTp_putW (h := h1) (o := 4) (w := eFt S) ft2 jss_5 a1.1 (show 0 + 2 + 1 < 29 by omega) (by omega)
  have A : eApp 4 1 5 0 (eImH S) y h2 := eApp_trans (by omega) a1 a2
  obtain ⟨h3, e3, a3⟩ := sSd_imgl bs hg y2 A rfl
  have a3' : eApp 4 1 5 0 (eIm0 S g) y h3 := a3
  have z1 := a3'.1
  rw [eIm0_len] at z1
  have ck := sTp_checkOf (h := h3) (o := 4) (c := 29) (m := 0 + (4 + 3 * g)) (n := 4 + 3 * g) (f := fun k => (eIm0 S g).getD k 0) z1 jss_5 (by omega) (by omega) (by omega) (fun k hk => ⟨eIm0_lt bs hg k, by
    have := a3'.2.1 k (by rw [eIm0_len]; exact hk)
    rw [Nat.zero_add] at this
    exact this⟩)
  have hck := eCk_lt (fun k => (eIm0 S g).getD k 0) (4 + 3 * g)
  obtain ⟨h4, e4, a4⟩ := sTp_putN (h := h3) (o := 4) (b := eCk (fun k => (eIm0 S g).getD k 0) (4 + 3 * g)) (by omega) jss_5 z1 (by omega) (by omega)
  have A4 : eApp 4 1 5 0 (eIm S g) y h4 := eApp_trans (by omega) a3' (by rw [eIm0_len]; exact a4)
  have z4 := A4.1
  rw [eIm_len] at z4
  refine ⟨h4, ?_, A4⟩
  have q1 : y.1 11 0 = jz (S 0 1) := y2.1
  have q2 : h1.1 11 1 = jz (S 0 2) := by rw [a1.2.2.1 _ _ (by omega) (by omega)]; exact y2.2.1
  have e1' := e1
  rw [Int.toNat_of_nonneg b1] at e1'
  have core : fSd_writeImage_j26 11 4 (jz g) 4 (jz (eFt S)) h1 = some h4 := by
    unfold fSd_writeImage_j26
    rw [e2, Option.bind_some, show (0 : Int32) = jz 0 from rfl, e3, Option.bind_some]
    unfold fTp_size
    rw [z1, Nat.zero_add, ck, Option.bind_some, e4]
    rfl
  have w : fSd_writeImage 11 4 (jz g) y = some h4 := by
    unfold fSd_writeImage
    rw [q1, e1', Option.bind_some, q2]
    rw [← ft1] at core
    by_cases c : S 0 2 = -1
    · rw [if_pos c] at core
      rw [c, if_pos (show jz (-1) = -1 from rfl)]
      exact core
    · rw [if_neg c] at core
      rw [if_neg (by rw [show (-1 : Int32) = jz (-1) from rfl, jz_eq (by omega) (by omega) (by omega) (by omega)]; exact c)]
      exact core
  rw [w, Option.bind_some]
  unfold fTp_size
  rw [z4, Nat.zero_add]
theorem sM_image (bs : bS g S) (hg : g ≤ 8) (mg : mV g D h) (ms : mS S h) : ∃ h', fM_image h = some (jz ((5 + 3 * g : Nat) : Int), h') ∧ eApp 110 90 176 0 (eIm S g) (jhI h 110 90 (jz 0)) h' := by
  have b1 := bs.1; have b2 := bs.2.1; have b3 := bs.2.2.1; have b4 := bs.2.2.2.1
  have y0 : (jhI h 110 90 (jz 0)).1 110 90 = jz 0 := by rw [jhI_1, if_pos ⟨rfl, rfl⟩]
  have y1 : mV g D (jhI h 110 90 (jz 0)) := mV_fr (fun o k hk => by rw [jhI_1, if_neg (by omega)]) mg
  have y2 : mS S (jhI h 110 90 (jz 0)) := mS_fr (fun k => by rw [jhI_1, if_neg (by omega)]) ms
  have fold : fM_image h = (fun y : jH => if jin (jz 0) 18 then Option.bind (fM_writesTwo (y.1 148 0) y) (fun (z2 : jH) => if jin (jz 1) 18 then (if z2.1 148 1 = jz (-1) then fM_image_j38 (jz 65535) z2 else (if jin (jz 1) 18 then fM_image_j38 (z2.1 148 1) z2 else none)) else none) else none) (jhI h 110 90 (jz 0)) := rfl
  rw [fold]
  generalize jhI h 110 90 (jz 0) = y at *
  obtain ⟨h1, e1, a1⟩ := sM_writesTwo (h := y) (n := 0) (w := (S 0 1).toNat) (by omega) y0 (by omega)
  obtain ⟨ft1, ft2⟩ := eFt_z bs
  obtain ⟨h2, e2, a2⟩ := sM_writesTwo (h := h1) (w := eFt S) ft2 a1.1 (show 0 + 2 + 1 < 29 by omega)
  have A : eApp 110 90 176 0 (eImH S) y h2 := eApp_trans (by omega) a1 a2
  obtain ⟨h3, e3, a3⟩ := sM_imgl bs hg y1 y2 A rfl
  have a3' : eApp 110 90 176 0 (eIm0 S g) y h3 := a3
  have z1 := a3'.1
  rw [eIm0_len] at z1
  have ck := sM_checked (h := h3) (o := 176) (c := 29) (n := 4 + 3 * g) (f := fun k => (eIm0 S g).getD k 0) jss_176 (by omega) (by omega) (fun k hk => ⟨eIm0_lt bs hg k, by
    have := a3'.2.1 k (by rw [eIm0_len]; exact hk)
    rw [Nat.zero_add] at this
    exact this⟩)
  have hck := eCk_lt (fun k => (eIm0 S g).getD k 0) (4 + 3 * g)
  obtain ⟨h4, e4, a4⟩ := sM_writes (h := h3) (eCk (fun k => (eIm0 S g).getD k 0) (4 + 3 * g)) z1 (by omega)
  have A4 : eApp 110 90 176 0 (eIm S g) y h4 := eApp_trans (by omega) a3' (by rw [eIm0_len]; exact a4)
  have z4 := A4.1
  rw [eIm_len] at z4
  refine ⟨h4, ?_, A4⟩
  have q1 : y.1 148 0 = jz (S 0 1) := y2.1
  have q2 : h1.1 148 1 = jz (S 0 2) := by rw [a1.2.2.1 _ _ (by omega) (by omega)]; exact y2.2.1
  have e1' := e1
  rw [Int.toNat_of_nonneg b1] at e1'
  have core : fM_image_j38 (jz (eFt S)) h1 = some (jz ((5 + 3 * g : Nat) : Int), h4) := by
    unfold fM_image_j38
    rw [e2, Option.bind_some, show (0 : Int32) = jz 0 from rfl, e3, Option.bind_some, z1, Nat.zero_add, ck, Option.bind_some, e4, Option.bind_some, z4, Nat.zero_add]
  show (if jin (jz 0) 18 then Option.bind (fM_writesTwo (y.1 148 0) y) (fun (z2 : jH) => if jin (jz 1) 18 then (if z2.1 148 1 = jz (-1) then fM_image_j38 (jz 65535) z2 else (if jin (jz 1) 18 then fM_image_j38 (z2.1 148 1) z2 else none)) else none) else none) = _
  rw [← ft1] at core
  by_cases c : S 0 2 = -1
  · rw [if_pos c] at core
    rw [c] at q2
    simp (disch := omega) only [Bool.false_eq_true, jz_lit, jz_neg, jz_nat, jz_add, jz_sub, jz_mul, jz_lt, jz_le, jz_eq, jz_ix, jin_z, jz_div, jzw, jwz, jw_lit, jw_neg, jw_add, jw_sub, jw_mul, jw_lt, jw_le, jw_eq, jw_div, Int.toNat_natCast, if_pos, if_neg, if_true, if_false, Option.bind_some, Int.natCast_add, Int.natCast_mul, Int.cast_ofNat_Int, Int.reduceToNat, Int.reduceAdd, Int.reduceMul, Int.reduceSub, Int.reduceNeg, Nat.reduceAdd, Nat.reduceMul, q1, e1', q2, core]
  · rw [if_neg c] at core
    simp (disch := omega) only [Bool.false_eq_true, jz_lit, jz_neg, jz_nat, jz_add, jz_sub, jz_mul, jz_lt, jz_le, jz_eq, jz_ix, jin_z, jz_div, jzw, jwz, jw_lit, jw_neg, jw_add, jw_sub, jw_mul, jw_lt, jw_le, jw_eq, jw_div, Int.toNat_natCast, if_pos, if_neg, if_true, if_false, Option.bind_some, Int.natCast_add, Int.natCast_mul, Int.cast_ofNat_Int, Int.reduceToNat, Int.reduceAdd, Int.reduceMul, Int.reduceSub, Int.reduceNeg, Nat.reduceAdd, Nat.reduceMul, q1, e1', q2, core]
end EIM
theorem call_31 : jcal_31 jInv := by
  intro p d q h V
  have V0 := V
  obtain ⟨hpd, hq, v1, v2, v3, v4, v5, ⟨m, m1, m2, m3, m4⟩, ⟨g, D, S, L, w1, w2, w3⟩⟩ := V
  have hpd' := hpd
  unfold iPD at hpd'
  have hg : g ≤ 8 := w1.1.1
  obtain ⟨h1, e1, A⟩ := sA_image (p := p) w2.1 hg w1.2.1.1 (by omega) w2.2.1 m1 m2
  have fA : ∀ o k, ¬ (o = 4 ∧ k = 1) → ¬ o = 5 → h1.1 o k = h.1 o k := fun o k x1 x2 => by
    rw [A.2.2.1 _ _ x1 (fun t => x2 t.1), jhI_1, if_neg x1]
  obtain ⟨h2, e2, B⟩ := sM_image (h := h1) (D := D) w2.1 hg (mV_fr (fun o k hk => fA _ _ (by omega) (by omega)) w1.2.2.1) (mS_fr (fun k => fA _ _ (by omega) (by omega)) w2.2.2)
  have fB : ∀ o k, ¬ (o = 110 ∧ k = 90) → ¬ o = 176 → h2.1 o k = h1.1 o k := fun o k x1 x2 => by
    rw [B.2.2.1 _ _ x1 (fun t => x2 t.1), jhI_1, if_neg x1]
  have F : ∀ o k, ¬ (o = 4 ∧ k = 1) → ¬ o = 5 → ¬ (o = 110 ∧ k = 90) → ¬ o = 176 → h2.1 o k = h.1 o k := fun o k x1 x2 x3 x4 => by rw [fB _ _ x3 x4, fA _ _ x1 x2]
  have F2 : h2.2 = h.2 := B.2.2.2.trans A.2.2.2
  refine ⟨_, e1, _, e2, rfl, hpd, hq, eWd_fr (fun o k hk => F _ _ (by omega) (by omega) (by omega) (by omega)) v1, iTape_fr (fun o k hk => F _ _ (by omega) (by omega) (by omega) (by omega)) v2, iFault_fr (fun o k hk => F _ _ (by omega) (by omega) (by omega) (by omega)) v3, iRef_fr (fun o k hk => F _ _ (by omega) (by omega) (by omega) (by omega)) v4, iSeed_fr (F _ _ (by omega) (by omega) (by omega) (by omega)) (by rw [F2]) v5, ⟨5 + 3 * g, by omega, ?_, ?_, fun k hk => ?_⟩, iWed_fr hq (fun o k hk => F _ _ ?_ ?_ ?_ ?_) (fun k _ => by rw [F2]) ⟨g, D, S, L, w1, w2, w3⟩⟩
  · rw [fB _ _ (by omega) (by omega), A.1, eIm_len, Nat.zero_add]
  · rw [B.1, eIm_len, Nat.zero_add]
  · have a := A.2.1 k (by rw [eIm_len]; exact hk)
    have b := B.2.1 k (by rw [eIm_len]; exact hk)
    rw [Nat.zero_add] at a b
    rw [b, fB _ _ (by omega) (by omega), a]
  all_goals (rcases hk with (hk | hk | hk) | hk | hk <;> omega)
