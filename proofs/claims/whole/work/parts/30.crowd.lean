/-! The class's row of weights is the reference's, times a power of ten -/
def eT (D S : jD) (kn t : Int) (k : Nat) : Int := if (k : Int) = kn then t else eTens D S k
def eBy (T s : Nat → Int) (g : Nat) (n : Int) : Int := eSum (fun k => if n < (k : Int) then eHd T s g k * ((k : Int) - n) else 0) 33
def eCost (T : Nat → Int) (D : jD) (g : Nat) (n : Int) : Int := (10 : Int) ^ g * n * D 0 5 + D 0 6 * eBy T (D 5) g n
def eLo (f : Int → Int) : Nat → Nat
  | 0 => 0
  | n + 1 => if f n < f (eLo f n) then n else eLo f n
theorem eLo_le (f : Int → Int) : ∀ n, eLo f n ≤ n := by
  intro n
  induction n with
  | zero => exact Nat.le_refl _
  | succ n ih => unfold eLo; split <;> omega
theorem eSum_mul {f : Nat → Int} {c : Int} : ∀ {n : Nat}, eSum (fun k => f k * c) n = eSum f n * c := by
  intro n
  induction n with
  | zero => simp [eSum]
  | succ n ih => unfold eSum; rw [ih, Int.add_mul]
theorem eScale {g : Nat} (hg : g ≤ 8) {x K L : Int} (hK : 0 < K) (hL : 0 < L) (h : L * K = 100000000) : x * ePw g / K = x * L / (10 : Int) ^ g := by
  have h1 := ePw_all hg
  have h2 := ePw_b g
  rw [← Int.mul_ediv_mul_of_pos (x * ePw g) K hL, h, ← h1, show L * (x * ePw g) = ePw g * (x * L) by rw [Int.mul_comm L, Int.mul_assoc, Int.mul_comm (ePw g) L, ← Int.mul_assoc, Int.mul_comm]]
  exact Int.mul_ediv_mul_of_pos _ _ (by omega)
section ECR
variable {p d g : Nat} {D S : jD} {h : jH} {T : Nat → Int}
theorem eT_b {kn t : Int} (b : bV g D) (ht : 0 ≤ t ∧ t ≤ 10) {k : Nat} (hk : k < g) : 0 ≤ eT D S kn t k ∧ eT D S kn t k ≤ 10 := by
  unfold eT
  split
  · exact ht
  · exact eTens_b b hk
theorem eHdW_b {k : Nat} {n : Int} (hk : k < 8) (ht : ∀ i, i < k → 0 ≤ T i ∧ T i ≤ 10) {s : Nat → Int} : 0 ≤ eHd T s k n * ePw (k + 1) ∧ eHd T s k n * ePw (k + 1) ≤ 100000000 := by
  have h1 := eHd_b (s := s) ht (n := n)
  have h2 := ePw_b (k + 1)
  have h3 := ePw_all (show k ≤ 8 by omega)
  have h4 := ePw_s hk
  refine ⟨Int.mul_nonneg h1.1 (by omega), ?_⟩
  have h5 : eHd T s k n * ePw (k + 1) ≤ (10 : Int) ^ k * ePw (k + 1) := Int.mul_le_mul_of_nonneg_right h1.2 (by omega)
  have h6 : (10 : Int) ^ k * ePw (k + 1) * 10 = 100000000 := by
    rw [← h3, h4, Int.mul_assoc, Int.mul_comm]
    rw [Int.mul_comm 10 (ePw (k + 1))]
  omega
theorem eHdG_b {n : Int} (hg : g ≤ 8) (ht : ∀ i, i < g → 0 ≤ T i ∧ T i ≤ 10) {s : Nat → Int} : 0 ≤ eHd T s g n * ePw g ∧ eHd T s g n * ePw g ≤ 100000000 := by
  have h1 := eHd_b (s := s) ht (n := n)
  have h2 := ePw_b g
  have h3 := ePw_all hg
  refine ⟨Int.mul_nonneg h1.1 (by omega), ?_⟩
  have h5 : eHd T s g n * ePw g ≤ (10 : Int) ^ g * ePw g := Int.mul_le_mul_of_nonneg_right h1.2 (by omega)
  rw [Int.mul_comm ((10 : Int) ^ g)] at h5
  omega
/-- the crowd's row, as the class holds it -/
def eRow (T : Nat → Int) (D : jD) (g : Nat) (h : jH) : Prop := ∃ M : Nat, M ≤ 32 ∧ h.1 80 1 = jz M ∧ (∀ n : Nat, n ≤ 32 → h.2 81 n = jw (eHd T (D 5) g n * ePw g)) ∧ ∀ n : Nat, M < n → n ≤ 32 → eHd T (D 5) g n = 0
theorem sCr_add {k s M : Nat} {t : Int} (hk : k < 8) (hkg : k < g) (b : bV g D) (hT : ∀ i, i < k + 1 → 0 ≤ T i ∧ T i ≤ 10) (et : T k = t) (es : D 5 k = s) (hM : M ≤ 32) (r1 : h.1 80 1 = jz M) (r2 : ∀ n : Nat, n ≤ 32 → h.2 81 n = jw (eHd T (D 5) k n * ePw k)) (r3 : ∀ n : Nat, M < n → n ≤ 32 → eHd T (D 5) k n = 0) : ∃ h', fCr_add (jz t) (jz s) h = some h' ∧ eFr (fun o _ => o = 80 ∨ o = 81) h h' ∧ ∃ M' : Nat, M' ≤ 32 ∧ h'.1 80 1 = jz M' ∧ (∀ n : Nat, n ≤ 32 → h'.2 81 n = jw (eHd T (D 5) (k + 1) n * ePw (k + 1))) ∧ ∀ n : Nat, M' < n → n ≤ 32 → eHd T (D 5) (k + 1) n = 0 := by
  have hs0 : ∀ i, i < g → 0 ≤ D 5 i := fun i hi => by have := b.2.2.2.1 i hi; omega
  have hs := b.2.2.2.1 k hkg
  rw [es] at hs
  have ht := hT k (by omega)
  rw [et] at ht
  have hpw := ePw_s hk
  have eh : ∀ n : Nat, eHd T (D 5) (k + 1) n = eHd T (D 5) k n * (10 - t) + (if s ≤ n then eHd T (D 5) k ((n - s : Nat) : Int) * t else 0) := fun n => by rw [eHd_s hs0 hkg es, et]
  by_cases hz : t = 0
  · refine ⟨h, ?_, eFr_refl _ _, M, hM, r1, fun n hn => ?_, fun n h1 h2 => ?_⟩
    · unfold fCr_add
      simp (disch := omega) only [Bool.false_eq_true, jz_lit, jz_neg, jz_nat, jz_add, jz_sub, jz_mul, jz_lt, jz_le, jz_eq, jz_ix, jin_z, jz_div, jzw, jwz, jw_lit, jw_neg, jw_add, jw_sub, jw_mul, jw_lt, jw_le, jw_eq, jw_div, Int.toNat_natCast, if_pos, if_neg, if_true, if_false, Option.bind_some, Int.natCast_add, Int.natCast_mul, Int.cast_ofNat_Int, Int.reduceToNat, Int.reduceAdd, Int.reduceMul, Int.reduceSub, Int.reduceNeg, Nat.reduceAdd, Nat.reduceMul]
    · rw [r2 n hn, eh, hz, hpw]
      congr 1
      split <;> grind
    · rw [eh, hz, r3 n h1 h2]
      split <;> simp
  · have hW : ∀ n : Nat, n ≤ 32 → (jhI h 80 1 (jz ((if M + s ≤ 32 then M + s else 32 : Nat) : Int))).2 81 n = jw (10 * (fun n : Nat => eHd T (D 5) k n * ePw (k + 1)) n) := fun n hn => by
      rw [jhI_2, r2 n hn, hpw]
      congr 1
      grind
    obtain ⟨y, e1, f1, f2, f3⟩ := sCr_addl (t := t) (s := s) (M := if M + s ≤ 32 then M + s else 32) (W := fun n => eHd T (D 5) k n * ePw (k + 1)) (by split <;> omega) ht (by omega) hW (fun n => eHdW_b hk (fun i hi => hT i (by omega)))
    have em : fMt_min (jz M + jz s) (jz 32) = jz ((if M + s ≤ 32 then M + s else 32 : Nat) : Int) := by
      unfold fMt_min
      by_cases c : M + s ≤ 32
      · simp (disch := omega) only [Bool.false_eq_true, jz_lit, jz_neg, jz_nat, jz_add, jz_sub, jz_mul, jz_lt, jz_le, jz_eq, jz_ix, jin_z, jz_div, jzw, jwz, jw_lit, jw_neg, jw_add, jw_sub, jw_mul, jw_lt, jw_le, jw_eq, jw_div, Int.toNat_natCast, if_pos, if_neg, if_true, if_false, Option.bind_some, Int.natCast_add, Int.natCast_mul, Int.cast_ofNat_Int, Int.reduceToNat, Int.reduceAdd, Int.reduceMul, Int.reduceSub, Int.reduceNeg, Nat.reduceAdd, Nat.reduceMul]
      · simp (disch := omega) only [Bool.false_eq_true, jz_lit, jz_neg, jz_nat, jz_add, jz_sub, jz_mul, jz_lt, jz_le, jz_eq, jz_ix, jin_z, jz_div, jzw, jwz, jw_lit, jw_neg, jw_add, jw_sub, jw_mul, jw_lt, jw_le, jw_eq, jw_div, Int.toNat_natCast, if_pos, if_neg, if_true, if_false, Option.bind_some, Int.natCast_add, Int.natCast_mul, Int.cast_ofNat_Int, Int.reduceToNat, Int.reduceAdd, Int.reduceMul, Int.reduceSub, Int.reduceNeg, Nat.reduceAdd, Nat.reduceMul]
    refine ⟨y, ?_, eFr_trans (eFr_I (S := fun o _ => o = 80 ∨ o = 81) (eFr_refl _ h) (Or.inl rfl) _) f1, (if M + s ≤ 32 then M + s else 32), by split <;> omega, ?_, fun n hn => ?_, fun n h1 h2 => ?_⟩
    · unfold fCr_add
      rw [r1, show (32 : Int32) = jz 32 from rfl, em]
      have e2 : (jhI h 80 1 (jz ((if M + s ≤ 32 then M + s else 32 : Nat) : Int))).1 80 1 = jz ((if M + s ≤ 32 then M + s else 32 : Nat) : Int) := rfl
      rw [e2, e1]
      simp (disch := omega) only [Bool.false_eq_true, jz_lit, jz_neg, jz_nat, jz_add, jz_sub, jz_mul, jz_lt, jz_le, jz_eq, jz_ix, jin_z, jz_div, jzw, jwz, jw_lit, jw_neg, jw_add, jw_sub, jw_mul, jw_lt, jw_le, jw_eq, jw_div, Int.toNat_natCast, if_pos, if_neg, if_true, if_false, Option.bind_some, Int.natCast_add, Int.natCast_mul, Int.cast_ofNat_Int, Int.reduceToNat, Int.reduceAdd, Int.reduceMul, Int.reduceSub, Int.reduceNeg, Nat.reduceAdd, Nat.reduceMul]
    · rw [f2]; rfl
    · rw [f3 n hn, eh]
      congr 1
      by_cases c : n ≤ (if M + s ≤ 32 then M + s else 32)
      · rw [if_pos c]
        by_cases c2 : s ≤ n
        · rw [if_pos c2, if_pos c2]; grind
        · rw [if_neg c2, if_neg c2]; grind
      · rw [if_neg c]
        have c3 : M + s < n := by
          by_cases q : M + s ≤ 32
          · rw [if_pos q] at c; omega
          · rw [if_neg q] at c; omega
        rw [if_pos (show s ≤ n by omega), r3 n (by omega) hn, r3 (n - s) (by omega) (by omega)]
        simp
    · have c3 : M + s < n := by
        by_cases q : M + s ≤ 32
        · rw [if_pos q] at h1; omega
        · rw [if_neg q] at h1; omega
      rw [eh, if_pos (show s ≤ n by omega), r3 n (by omega) h2, r3 (n - s) (by omega) (by omega)]
      simp
theorem sPy_crowdWhen {kn t : Int} (hpd : iPD p d) (b : bV g D) (c : cV p g D h) (bs : bS g S) (cs : cS 11 S h) (ht : 0 ≤ t ∧ t ≤ 10) (hkn : -1 ≤ kn ∧ kn < 8) : ∃ h', fPy_crowdWhen p (jz kn) (jz t) h = some (80, h') ∧ eFr (fun o _ => o = 80 ∨ o = 81) h h' ∧ eRow (eT D S kn t) D g h' := by
  have b0 := b.1
  have hpd2 := hpd
  unfold iPD at hpd2
  obtain ⟨x0, e0, f0, z1, z2⟩ := sCr_clear (h := h)
  have hl := jlim_cnt (step := fPy_crowdWhen_l9 p (jz kn) (jz t)) (fun k (x : jH) => (jz k, x)) (fun k x => eFr (fun o _ => o = 80 ∨ o = 81) h x ∧ ∃ M : Nat, M ≤ 32 ∧ x.1 80 1 = jz M ∧ (∀ n : Nat, n ≤ 32 → x.2 81 n = jw (eHd (eT D S kn t) (D 5) k n * ePw k)) ∧ ∀ n : Nat, M < n → n ≤ 32 → eHd (eT D S kn t) (D 5) k n = 0) (fun x => eFr (fun o _ => o = 80 ∨ o = 81) h x ∧ eRow (eT D S kn t) D g x) g g 0 (by omega) x0 ?_ ?_ ?_
  · obtain ⟨x, h1, h2, h3⟩ := hl
    refine ⟨x, ?_, h2, h3⟩
    unfold fPy_crowdWhen
    rw [e0]
    have h1' : jlim (fPy_crowdWhen_l9 p (jz kn) (jz t)) (0, x0) = some x := h1
    rw [Option.bind_some, h1']
    rfl
  · refine ⟨f0, 0, by omega, z1, fun n hn => ?_, fun n h1 h2 => ?_⟩
    · rw [z2 n hn]
      congr 1
      show _ = (if (n : Int) = 0 then 1 else 0) * ePw 0
      by_cases e : n = 0
      · rw [if_pos e, if_pos (by omega)]; rfl
      · rw [if_neg e, if_neg (by omega)]; simp
    · show (if (n : Int) = 0 then 1 else 0) = (0 : Int)
      rw [if_neg (by omega)]
  · rintro k x _ hk ⟨q1, M, hM, q2, q3, q4⟩
    have c1 : cV p g D x := cV_fr (fun o k hk => q1.1 o k (by omega)) c
    have cs1 : cS 11 S x := cS_fr (fun o k hk => q1.1 o k (by omega)) cs
    obtain ⟨s, es, hs⟩ := eSz b hk
    have c5 := (c1.2.2.2.1 k hk).2.2.1
    rw [es] at c5
    obtain ⟨y, e1, f1, r⟩ := sCr_add (h := x) (T := eT D S kn t) (t := eT D S kn t k) (show k < 8 by omega) hk b (fun i hi => eT_b b ht (by omega)) rfl es hM q2 q3 q4
    refine ⟨y, ?_, eFr_trans q1 f1, r⟩
    simp only [fPy_crowdWhen_l9, fPy_crowdWhen_l9_b, fPy_crowdWhen_l9_j44, c1.1]
    by_cases e : (k : Int) = kn
    · have e2 : eT D S kn t k = t := by unfold eT; rw [if_pos e]
      rw [e2] at e1
      simp (disch := omega) only [Bool.false_eq_true, jz_lit, jz_neg, jz_nat, jz_add, jz_sub, jz_mul, jz_lt, jz_le, jz_eq, jz_ix, jin_z, jz_div, jzw, jwz, jw_lit, jw_neg, jw_add, jw_sub, jw_mul, jw_lt, jw_le, jw_eq, jw_div, Int.toNat_natCast, if_pos, if_neg, if_true, if_false, Option.bind_some, Int.natCast_add, Int.natCast_mul, Int.cast_ofNat_Int, Int.reduceToNat, Int.reduceAdd, Int.reduceMul, Int.reduceSub, Int.reduceNeg, Nat.reduceAdd, Nat.reduceMul, c5, e1]
    · have e2 : eT D S kn t k = eTens D S k := by unfold eT; rw [if_neg e]
      rw [e2] at e1
      simp (disch := omega) only [Bool.false_eq_true, jz_lit, jz_neg, jz_nat, jz_add, jz_sub, jz_mul, jz_lt, jz_le, jz_eq, jz_ix, jin_z, jz_div, jzw, jwz, jw_lit, jw_neg, jw_add, jw_sub, jw_mul, jw_lt, jw_le, jw_eq, jw_div, Int.toNat_natCast, if_pos, if_neg, if_true, if_false, Option.bind_some, Int.natCast_add, Int.natCast_mul, Int.cast_ofNat_Int, Int.reduceToNat, Int.reduceAdd, Int.reduceMul, Int.reduceSub, Int.reduceNeg, Nat.reduceAdd, Nat.reduceMul, c5, sPy_comesNow b c1 bs cs1 hk, e1]
  · rintro x ⟨q1, q2⟩
    have c1 : cV p g D x := cV_fr (fun o k hk => q1.1 o k (by omega)) c
    refine ⟨x, ?_, q1, q2⟩
    simp only [fPy_crowdWhen_l9, fPy_crowdWhen_l9_b, c1.1]
    simp (disch := omega) only [Bool.false_eq_true, jz_lit, jz_neg, jz_nat, jz_add, jz_sub, jz_mul, jz_lt, jz_le, jz_eq, jz_ix, jin_z, jz_div, jzw, jwz, jw_lit, jw_neg, jw_add, jw_sub, jw_mul, jw_lt, jw_le, jw_eq, jw_div, Int.toNat_natCast, if_pos, if_neg, if_true, if_false, Option.bind_some, Int.natCast_add, Int.natCast_mul, Int.cast_ofNat_Int, Int.reduceToNat, Int.reduceAdd, Int.reduceMul, Int.reduceSub, Int.reduceNeg, Nat.reduceAdd, Nat.reduceMul]
theorem eBy_b {n : Int} (hT : ∀ i, i < g → 0 ≤ T i ∧ T i ≤ 10) (hn : 0 ≤ n) {s : Nat → Int} : 0 ≤ eBy T s g n ∧ eBy T s g n ≤ 1056 * (10 : Int) ^ g := by
  have h0 : (0 : Int) < (10 : Int) ^ g := Int.pow_pos (by omega)
  have := eSum_b (f := fun k => if n < (k : Int) then eHd T s g k * ((k : Int) - n) else 0) (m := 32 * (10 : Int) ^ g) (n := 33) (fun k hk => by
    show 0 ≤ (if n < (k : Int) then _ else _) ∧ (if n < (k : Int) then _ else _) ≤ _
    by_cases c : n < (k : Int)
    · rw [if_pos c]
      have h1 := eHd_b (s := s) hT (n := (k : Int))
      refine ⟨Int.mul_nonneg h1.1 (by omega), ?_⟩
      have h2 : eHd T s g k * ((k : Int) - n) ≤ (10 : Int) ^ g * ((k : Int) - n) := Int.mul_le_mul_of_nonneg_right h1.2 (by omega)
      have h3 : (10 : Int) ^ g * ((k : Int) - n) ≤ (10 : Int) ^ g * 32 := Int.mul_le_mul_of_nonneg_left (by omega) (by omega)
      omega
    · rw [if_neg c]; omega)
  unfold eBy
  omega
theorem eCost_b {n : Int} (b : bV g D) (hT : ∀ i, i < g → 0 ≤ T i ∧ T i ≤ 10) (hn : 0 ≤ n ∧ n ≤ 32) : 0 ≤ eCost T D g n ∧ eCost T D g n ≤ 200000 * (10 : Int) ^ g ∧ 0 ≤ eCost T D g n * ePw g ∧ eCost T D g n * ePw g ≤ 20000000000000 := by
  have h0 : (0 : Int) < (10 : Int) ^ g := Int.pow_pos (by omega)
  have h1 := eBy_b (s := D 5) hT hn.1
  have b2 := b.2.1
  have a1 : 0 ≤ (10 : Int) ^ g * n := Int.mul_nonneg (by omega) hn.1
  have a2 : (10 : Int) ^ g * n ≤ (10 : Int) ^ g * 32 := Int.mul_le_mul_of_nonneg_left hn.2 (by omega)
  have a3 : 0 ≤ (10 : Int) ^ g * n * D 0 5 := Int.mul_nonneg a1 (by omega)
  have a4 : (10 : Int) ^ g * n * D 0 5 ≤ (10 : Int) ^ g * n * 99 := Int.mul_le_mul_of_nonneg_left (by omega) a1
  have a5 : 0 ≤ D 0 6 * eBy T (D 5) g n := Int.mul_nonneg (by omega) h1.1
  have a6 : D 0 6 * eBy T (D 5) g n ≤ 99 * eBy T (D 5) g n := Int.mul_le_mul_of_nonneg_right (by omega) h1.1
  have e1 : 0 ≤ eCost T D g n := by unfold eCost; omega
  have e2 : eCost T D g n ≤ 200000 * (10 : Int) ^ g := by unfold eCost; omega
  have p1 := ePw_b g
  have p2 := ePw_all b.1
  refine ⟨e1, e2, Int.mul_nonneg e1 (by omega), ?_⟩
  have a7 : eCost T D g n * ePw g ≤ 200000 * (10 : Int) ^ g * ePw g := Int.mul_le_mul_of_nonneg_right e2 (by omega)
  rw [Int.mul_assoc, Int.mul_comm ((10 : Int) ^ g), p2] at a7
  omega
theorem eSum_z {f : Nat → Int} : ∀ {n : Nat}, (∀ k, k < n → f k = 0) → eSum f n = 0 := by
  intro n
  induction n with
  | zero => intro _; rfl
  | succ n ih => intro h; unfold eSum; rw [ih (fun k hk => h k (by omega)), h n (by omega)]; rfl
theorem sCr_beyond {n : Int} (hg : g ≤ 8) (r : eRow T D g h) (hT : ∀ i, i < g → 0 ≤ T i ∧ T i ≤ 10) (hn : 0 ≤ n ∧ n ≤ 40) : fCr_beyond (jz n) h = some (jw (eBy T (D 5) g n * ePw g)) := by
  obtain ⟨M, hM, r1, r2, r3⟩ := r
  unfold fCr_beyond
  have hf : ∀ m, eSum (fun k => if n < (k : Int) then eHd T (D 5) g k * ePw g * ((k : Int) - n) else 0) m = eSum (fun k => if n < (k : Int) then eHd T (D 5) g k * ((k : Int) - n) else 0) m * ePw g := fun m => by
    rw [← eSum_mul]
    refine eSum_congr (fun k _ => ?_)
    split
    · grind
    · simp
  have hl : jlim (fCr_beyond_l5 (jz n) h) (0, 0) = some (jw (eBy T (D 5) g n * ePw g)) := by
    have e33 : eBy T (D 5) g n * ePw g = eSum (fun k => if n < (k : Int) then eHd T (D 5) g k * ePw g * ((k : Int) - n) else 0) (M + 1) := by
      rw [hf]
      unfold eBy
      rw [eSum_le (n := M + 1) (m := 33) (by omega) (fun k h1 h2 => by
        show (if n < (k : Int) then _ else _) = _
        rw [r3 k (by omega) (by omega)]; simp)]
    rw [e33]
    refine jlim_go (fun i => (jw (eSum (fun k => if n < (k : Int) then eHd T (D 5) g k * ePw g * ((k : Int) - n) else 0) i), jz i)) (M + 1) rfl (fun i hi => ?_) ?_
    · have r2i := r2 i (by omega)
      simp only [fCr_beyond_l5, fCr_beyond_l5_b, fCr_beyond_l5_j43, r1, eSum]
      by_cases c : n < (i : Int)
      · simp (disch := omega) only [Bool.false_eq_true, jz_lit, jz_neg, jz_nat, jz_add, jz_sub, jz_mul, jz_lt, jz_le, jz_eq, jz_ix, jin_z, jz_div, jzw, jwz, jw_lit, jw_neg, jw_add, jw_sub, jw_mul, jw_lt, jw_le, jw_eq, jw_div, Int.toNat_natCast, if_pos, if_neg, if_true, if_false, Option.bind_some, Int.natCast_add, Int.natCast_mul, Int.cast_ofNat_Int, Int.reduceToNat, Int.reduceAdd, Int.reduceMul, Int.reduceSub, Int.reduceNeg, Nat.reduceAdd, Nat.reduceMul, r2i]
      · simp (disch := omega) only [Bool.false_eq_true, jz_lit, jz_neg, jz_nat, jz_add, jz_sub, jz_mul, jz_lt, jz_le, jz_eq, jz_ix, jin_z, jz_div, jzw, jwz, jw_lit, jw_neg, jw_add, jw_sub, jw_mul, jw_lt, jw_le, jw_eq, jw_div, Int.toNat_natCast, if_pos, if_neg, if_true, if_false, Option.bind_some, Int.natCast_add, Int.natCast_mul, Int.cast_ofNat_Int, Int.reduceToNat, Int.reduceAdd, Int.reduceMul, Int.reduceSub, Int.reduceNeg, Nat.reduceAdd, Nat.reduceMul, Int.add_zero]
    · simp only [fCr_beyond_l5, fCr_beyond_l5_b, r1]
      simp (disch := omega) only [Bool.false_eq_true, jz_lit, jz_neg, jz_nat, jz_add, jz_sub, jz_mul, jz_lt, jz_le, jz_eq, jz_ix, jin_z, jz_div, jzw, jwz, jw_lit, jw_neg, jw_add, jw_sub, jw_mul, jw_lt, jw_le, jw_eq, jw_div, Int.toNat_natCast, if_pos, if_neg, if_true, if_false, Option.bind_some, Int.natCast_add, Int.natCast_mul, Int.cast_ofNat_Int, Int.reduceToNat, Int.reduceAdd, Int.reduceMul, Int.reduceSub, Int.reduceNeg, Nat.reduceAdd, Nat.reduceMul]
  rw [hl]
  rfl
theorem sM_beyond {n : Nat} (hn : n ≤ 40) (r2 : ∀ n : Nat, n ≤ 32 → h.2 150 n = jw (eHd T (D 5) g n)) : fM_beyond (jz n) h = some (jw (eBy T (D 5) g n)) := by
  unfold fM_beyond
  have hl : jlim (fM_beyond_l7 (jz n) h) (0, jz n + 1) = some (jw (eBy T (D 5) g n)) := by
    have hstep : ∀ i : Nat, n < i → i ≤ 32 → fM_beyond_l7 (jz n) h (jw (eSum (fun k => if (n : Int) < (k : Int) then eHd T (D 5) g k * ((k : Int) - n) else 0) i), jz i) = some (.inl (jw (eSum (fun k => if (n : Int) < (k : Int) then eHd T (D 5) g k * ((k : Int) - n) else 0) (i + 1)), jz ((i + 1 : Nat) : Int))) := by
      intro i h1 h2
      have r2i := r2 i h2
      simp only [fM_beyond_l7, fM_beyond_l7_b, eSum]
      simp (disch := omega) only [Bool.false_eq_true, jz_lit, jz_neg, jz_nat, jz_add, jz_sub, jz_mul, jz_lt, jz_le, jz_eq, jz_ix, jin_z, jz_div, jzw, jwz, jw_lit, jw_neg, jw_add, jw_sub, jw_mul, jw_lt, jw_le, jw_eq, jw_div, Int.toNat_natCast, if_pos, if_neg, if_true, if_false, Option.bind_some, Int.natCast_add, Int.natCast_mul, Int.cast_ofNat_Int, Int.reduceToNat, Int.reduceAdd, Int.reduceMul, Int.reduceSub, Int.reduceNeg, Nat.reduceAdd, Nat.reduceMul, r2i]
    have hend : ∀ i : Nat, 32 < i → i < 100 → ∀ v, fM_beyond_l7 (jz n) h (v, jz i) = some (.inr v) := by
      intro i h1 h2 v
      simp only [fM_beyond_l7, fM_beyond_l7_b]
      simp (disch := omega) only [Bool.false_eq_true, jz_lit, jz_neg, jz_nat, jz_add, jz_sub, jz_mul, jz_lt, jz_le, jz_eq, jz_ix, jin_z, jz_div, jzw, jwz, jw_lit, jw_neg, jw_add, jw_sub, jw_mul, jw_lt, jw_le, jw_eq, jw_div, Int.toNat_natCast, if_pos, if_neg, if_true, if_false, Option.bind_some, Int.natCast_add, Int.natCast_mul, Int.cast_ofNat_Int, Int.reduceToNat, Int.reduceAdd, Int.reduceMul, Int.reduceSub, Int.reduceNeg, Nat.reduceAdd, Nat.reduceMul]
    have e0 : ((0 : Int64), jz n + 1) = (jw (eSum (fun k => if (n : Int) < (k : Int) then eHd T (D 5) g k * ((k : Int) - n) else 0) (n + 1)), jz ((n + 1 : Nat) : Int)) := by
      rw [eSum_z (fun k hk => by show (if (n : Int) < (k : Int) then _ else _) = _; rw [if_neg (by omega)])]
      rw [show (1 : Int32) = jz 1 from rfl, jz_add]
      rfl
    rw [e0]
    by_cases c : n ≤ 32
    · have := jlim_run (step := fM_beyond_l7 (jz n) h) (fun i => (jw (eSum (fun k => if (n : Int) < (k : Int) then eHd T (D 5) g k * ((k : Int) - n) else 0) i), jz i)) (e := jw (eBy T (D 5) g n)) (32 - n) (n + 1) (fun i h1 h2 => hstep i (by omega) (by omega)) (by
        rw [show n + 1 + (32 - n) = 33 by omega]
        exact hend 33 (by omega) (by omega) _)
      exact this
    · rw [jlim_eq, hend (n + 1) (by omega) (by omega)]
      show some _ = some _
      congr 2
      unfold eBy
      rw [eSum_z (fun k hk => by show (if (n : Int) < (k : Int) then _ else _) = _; rw [if_neg (by omega)]), eSum_z (fun k hk => by show (if (n : Int) < (k : Int) then _ else _) = _; rw [if_neg (by omega)])]
  rw [hl]
  rfl
theorem sCr_orderCost {n : Int} (b : bV g D) (r : eRow T D g h) (hT : ∀ i, i < g → 0 ≤ T i ∧ T i ≤ 10) (hn : 0 ≤ n ∧ n ≤ 32) : fCr_orderCost (jz n) (jz (D 0 5)) (jz (D 0 6)) h = some (jw (eCost T D g n * ePw g)) := by
  have b2 := b.2.1
  have p2 := ePw_all b.1
  unfold fCr_orderCost
  rw [sCr_beyond b.1 r hT (by omega)]
  simp (disch := omega) only [Bool.false_eq_true, jz_lit, jz_neg, jz_nat, jz_add, jz_sub, jz_mul, jz_lt, jz_le, jz_eq, jz_ix, jin_z, jz_div, jzw, jwz, jw_lit, jw_neg, jw_add, jw_sub, jw_mul, jw_lt, jw_le, jw_eq, jw_div, Int.toNat_natCast, if_pos, if_neg, if_true, if_false, Option.bind_some, Int.natCast_add, Int.natCast_mul, Int.cast_ofNat_Int, Int.reduceToNat, Int.reduceAdd, Int.reduceMul, Int.reduceSub, Int.reduceNeg, Nat.reduceAdd, Nat.reduceMul]
  congr 2
  unfold eCost
  rw [← p2]
  grind
theorem sM_costOf {n : Nat} (b : bV g D) (m : mV g D h) (hn : n ≤ 32) (r2 : ∀ n : Nat, n ≤ 32 → h.2 150 n = jw (eHd T (D 5) g n)) (r3 : h.2 110 53 = jw ((10 : Int) ^ g)) : fM_costOf (jz n) h = some (jw (eCost T D g n)) := by
  have b2 := b.2.1
  have m2 := m.2.1
  unfold fM_costOf
  rw [sM_beyond (by omega) r2]
  simp (disch := omega) only [Bool.false_eq_true, jz_lit, jz_neg, jz_nat, jz_add, jz_sub, jz_mul, jz_lt, jz_le, jz_eq, jz_ix, jin_z, jz_div, jzw, jwz, jw_lit, jw_neg, jw_add, jw_sub, jw_mul, jw_lt, jw_le, jw_eq, jw_div, Int.toNat_natCast, if_pos, if_neg, if_true, if_false, Option.bind_some, Int.natCast_add, Int.natCast_mul, Int.cast_ofNat_Int, Int.reduceToNat, Int.reduceAdd, Int.reduceMul, Int.reduceSub, Int.reduceNeg, Nat.reduceAdd, Nat.reduceMul, r3, m2]
  rfl
theorem sCr_leastOrder (b : bV g D) (r : eRow T D g h) (hT : ∀ i, i < g → 0 ≤ T i ∧ T i ≤ 10) : fCr_leastOrder (jz (D 0 5)) (jz (D 0 6)) h = some (jz (eLo (eCost T D g) 33)) := by
  have p1 := ePw_b g
  have hc : ∀ n : Int, 0 ≤ n → n ≤ 32 → fCr_orderCost (jz n) (jz (D 0 5)) (jz (D 0 6)) h = some (jw (eCost T D g n * ePw g)) := fun n h1 h2 => sCr_orderCost b r hT ⟨h1, h2⟩
  unfold fCr_leastOrder
  have h0 := hc 0 (by omega) (by omega)
  rw [show (0 : Int32) = jz 0 from rfl, h0, Option.bind_some]
  have hl : jlim (fCr_leastOrder_l14 (jz (D 0 5)) (jz (D 0 6)) h) (jz 0, jw (eCost T D g 0 * ePw g), 1) = some (jz (eLo (eCost T D g) 33)) := by
    refine jlim_go (fun i => (jz (eLo (eCost T D g) (i + 1)), jw (eCost T D g (eLo (eCost T D g) (i + 1)) * ePw g), jz ((i + 1 : Nat) : Int))) 32 ?_ (fun i hi => ?_) ?_
    · have : eLo (eCost T D g) (0 + 1) = 0 := by unfold eLo; split <;> rfl
      rw [this]
      rfl
    · have hle := eLo_le (eCost T D g) (i + 1)
      have e1 := eCost_b (n := ((i + 1 : Nat) : Int)) b hT (by omega)
      have e2 := eCost_b (n := ((eLo (eCost T D g) (i + 1) : Nat) : Int)) b hT (by omega)
      have es : eLo (eCost T D g) (i + 1 + 1) = if eCost T D g ((i + 1 : Nat) : Int) < eCost T D g (eLo (eCost T D g) (i + 1)) then i + 1 else eLo (eCost T D g) (i + 1) := rfl
      simp only [fCr_leastOrder_l14, fCr_leastOrder_l14_b, fCr_leastOrder_l14_j46, es]
      have hci := hc ((i + 1 : Nat) : Int) (by omega) (by omega)
      generalize hk : i + 1 = k at *
      by_cases c : eCost T D g (k : Int) < eCost T D g (eLo (eCost T D g) k)
      · have c2 : eCost T D g (k : Int) * ePw g < eCost T D g (eLo (eCost T D g) k) * ePw g := Int.mul_lt_mul_of_pos_right c (by omega)
        simp (disch := omega) only [Bool.false_eq_true, jz_lit, jz_neg, jz_nat, jz_add, jz_sub, jz_mul, jz_lt, jz_le, jz_eq, jz_ix, jin_z, jz_div, jzw, jwz, jw_lit, jw_neg, jw_add, jw_sub, jw_mul, jw_lt, jw_le, jw_eq, jw_div, Int.toNat_natCast, if_pos, if_neg, if_true, if_false, Option.bind_some, Int.natCast_add, Int.natCast_mul, Int.cast_ofNat_Int, Int.reduceToNat, Int.reduceAdd, Int.reduceMul, Int.reduceSub, Int.reduceNeg, Nat.reduceAdd, Nat.reduceMul, hci]
      · have c2 : ¬ eCost T D g (k : Int) * ePw g < eCost T D g (eLo (eCost T D g) k) * ePw g := fun h => c (Int.lt_of_mul_lt_mul_right h (by omega))
        simp (disch := omega) only [Bool.false_eq_true, jz_lit, jz_neg, jz_nat, jz_add, jz_sub, jz_mul, jz_lt, jz_le, jz_eq, jz_ix, jin_z, jz_div, jzw, jwz, jw_lit, jw_neg, jw_add, jw_sub, jw_mul, jw_lt, jw_le, jw_eq, jw_div, Int.toNat_natCast, if_pos, if_neg, if_true, if_false, Option.bind_some, Int.natCast_add, Int.natCast_mul, Int.cast_ofNat_Int, Int.reduceToNat, Int.reduceAdd, Int.reduceMul, Int.reduceSub, Int.reduceNeg, Nat.reduceAdd, Nat.reduceMul, hci]
    · simp only [fCr_leastOrder_l14, fCr_leastOrder_l14_b]
      simp (disch := omega) only [Bool.false_eq_true, jz_lit, jz_neg, jz_nat, jz_add, jz_sub, jz_mul, jz_lt, jz_le, jz_eq, jz_ix, jin_z, jz_div, jzw, jwz, jw_lit, jw_neg, jw_add, jw_sub, jw_mul, jw_lt, jw_le, jw_eq, jw_div, Int.toNat_natCast, if_pos, if_neg, if_true, if_false, Option.bind_some, Int.natCast_add, Int.natCast_mul, Int.cast_ofNat_Int, Int.reduceToNat, Int.reduceAdd, Int.reduceMul, Int.reduceSub, Int.reduceNeg, Nat.reduceAdd, Nat.reduceMul]
  rw [hl]
  rfl
theorem sM_bestOrder (b : bV g D) (m : mV g D h) (hT : ∀ i, i < g → 0 ≤ T i ∧ T i ≤ 10) (r2 : ∀ n : Nat, n ≤ 32 → h.2 150 n = jw (eHd T (D 5) g n)) (r3 : h.2 110 53 = jw ((10 : Int) ^ g)) : fM_bestOrder h = some (jz (eLo (eCost T D g) 33)) := by
  have p0 : (0 : Int) < (10 : Int) ^ g := Int.pow_pos (by omega)
  have p9 : (10 : Int) ^ g ≤ 100000000 := by
    have h1 : (10 : Nat) ^ g ≤ 10 ^ 8 := Nat.pow_le_pow_right (by omega) b.1
    have h2 : ((10 ^ g : Nat) : Int) ≤ ((10 ^ 8 : Nat) : Int) := Int.ofNat_le.mpr h1
    simpa using h2
  unfold fM_bestOrder
  have hl : jlim (fM_bestOrder_l4 h) (0, 1) = some (jz (eLo (eCost T D g) 33)) := by
    refine jlim_go (fun i => (jz (eLo (eCost T D g) (i + 1)), jz ((i + 1 : Nat) : Int))) 32 ?_ (fun i hi => ?_) ?_
    · have : eLo (eCost T D g) (0 + 1) = 0 := by unfold eLo; split <;> rfl
      rw [this]
      rfl
    · have hle := eLo_le (eCost T D g) (i + 1)
      have e1 := eCost_b (n := ((i + 1 : Nat) : Int)) b hT (by omega)
      have e2 := eCost_b (n := ((eLo (eCost T D g) (i + 1) : Nat) : Int)) b hT (by omega)
      have es : eLo (eCost T D g) (i + 1 + 1) = if eCost T D g ((i + 1 : Nat) : Int) < eCost T D g (eLo (eCost T D g) (i + 1)) then i + 1 else eLo (eCost T D g) (i + 1) := rfl
      simp only [fM_bestOrder_l4, fM_bestOrder_l4_b, fM_bestOrder_l4_j26, es]
      have hci := sM_costOf (n := i + 1) b m (by omega) r2 r3
      have hcl := sM_costOf (n := eLo (eCost T D g) (i + 1)) b m (by omega) r2 r3
      generalize hk : i + 1 = k at *
      by_cases c : eCost T D g (k : Int) < eCost T D g (eLo (eCost T D g) k)
      · simp (disch := omega) only [Bool.false_eq_true, jz_lit, jz_neg, jz_nat, jz_add, jz_sub, jz_mul, jz_lt, jz_le, jz_eq, jz_ix, jin_z, jz_div, jzw, jwz, jw_lit, jw_neg, jw_add, jw_sub, jw_mul, jw_lt, jw_le, jw_eq, jw_div, Int.toNat_natCast, if_pos, if_neg, if_true, if_false, Option.bind_some, Int.natCast_add, Int.natCast_mul, Int.cast_ofNat_Int, Int.reduceToNat, Int.reduceAdd, Int.reduceMul, Int.reduceSub, Int.reduceNeg, Nat.reduceAdd, Nat.reduceMul, hci, hcl]
      · simp (disch := omega) only [Bool.false_eq_true, jz_lit, jz_neg, jz_nat, jz_add, jz_sub, jz_mul, jz_lt, jz_le, jz_eq, jz_ix, jin_z, jz_div, jzw, jwz, jw_lit, jw_neg, jw_add, jw_sub, jw_mul, jw_lt, jw_le, jw_eq, jw_div, Int.toNat_natCast, if_pos, if_neg, if_true, if_false, Option.bind_some, Int.natCast_add, Int.natCast_mul, Int.cast_ofNat_Int, Int.reduceToNat, Int.reduceAdd, Int.reduceMul, Int.reduceSub, Int.reduceNeg, Nat.reduceAdd, Nat.reduceMul, hci, hcl]
    · simp only [fM_bestOrder_l4, fM_bestOrder_l4_b]
      simp (disch := omega) only [Bool.false_eq_true, jz_lit, jz_neg, jz_nat, jz_add, jz_sub, jz_mul, jz_lt, jz_le, jz_eq, jz_ix, jin_z, jz_div, jzw, jwz, jw_lit, jw_neg, jw_add, jw_sub, jw_mul, jw_lt, jw_le, jw_eq, jw_div, Int.toNat_natCast, if_pos, if_neg, if_true, if_false, Option.bind_some, Int.natCast_add, Int.natCast_mul, Int.cast_ofNat_Int, Int.reduceToNat, Int.reduceAdd, Int.reduceMul, Int.reduceSub, Int.reduceNeg, Nat.reduceAdd, Nat.reduceMul]
  rw [hl]
  rfl
end ECR
