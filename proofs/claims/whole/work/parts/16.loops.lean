/-! Loops; references told as numbers -/
theorem jword {i : Int32} (h : jin i 31) : jcl 176 (1000 + i.toNatClampNeg) = 13 := by
  have := h.2
  unfold jcl
  rw [if_neg (by omega), if_neg (by omega), if_pos (by omega)]
theorem jcl_le6 {v : Nat} (h : jcl 176 v = 6) : v ≤ 176 := by
  unfold jcl at h
  split at h
  · assumption
  · split at h
    · omega
    · split at h
      · omega
      · split at h
        · omega
        · split at h <;> omega
theorem jlt {a b : Nat} (h : Nat.ble (a + 1) b = true) : a < b := Nat.le_of_ble_eq_true h
theorem jle_nil : jle [] [] := trivial
theorem jle_n {a b : jPL} {y : Option Value} (h : jle a b) : jle (none :: a) (y :: b) := h
theorem jle_v {a b : jPL} {v : Value} (h : jle a b) : jle (some v :: a) (some v :: b) := ⟨rfl, h⟩
theorem jguard {α : Type} {c : Prop} {dec : Decidable c} {A : Option α} {z : α} (h : (if c then A else none) = some z) : c ∧ A = some z := by
  by_cases hc : c
  · rw [if_pos hc] at h; exact ⟨hc, h⟩
  · rw [if_neg hc] at h; cases h
/-- a loop: so many rounds at most -/
def jit {S E : Type} (step : S → Option (S ⊕ E)) : Nat → S → Option E
  | 0, _ => none
  | n + 1, s => match step s with
    | none => none
    | some (.inl s') => jit step n s'
    | some (.inr e) => some e
theorem jit_mono {S E : Type} {step : S → Option (S ⊕ E)} : ∀ {n : Nat} {s : S} {e : E}, jit step n s = some e → ∀ {k : Nat}, n ≤ k → jit step k s = some e := by
  intro n
  induction n with
  | zero => intro s e h; cases h
  | succ n ih =>
    intro s e h k hk
    cases k with
    | zero => omega
    | succ k =>
      unfold jit at h ⊢
      cases hs : step s with
      | none => rw [hs] at h; cases h
      | some z =>
        rw [hs] at h
        cases z with
        | inl s' => exact ih h (by omega)
        | inr e' => exact h

/-- a loop, to its end -/
noncomputable def jlim {S E : Type} (step : S → Option (S ⊕ E)) (s : S) : Option E := @dite (Option E) (∃ (n : Nat) (e : E), jit step n s = some e) (Classical.propDecidable _) (fun h => some (Classical.choose (Classical.choose_spec h))) (fun _ => none)
theorem jlim_iff {S E : Type} {step : S → Option (S ⊕ E)} {s : S} {e : E} : jlim step s = some e ↔ ∃ n, jit step n s = some e := by
  unfold jlim
  constructor
  · intro h
    split at h
    · next hq =>
      cases h
      exact ⟨_, Classical.choose_spec (Classical.choose_spec hq)⟩
    · cases h
  · rintro ⟨n, hn⟩
    have hq : ∃ (n : Nat) (e : E), jit step n s = some e := ⟨n, e, hn⟩
    rw [dif_pos hq]
    have h1 := jit_mono (Classical.choose_spec (Classical.choose_spec hq)) (Nat.le_max_left _ n)
    have h2 := jit_mono hn (Nat.le_max_right (Classical.choose hq) n)
    exact h1.symm.trans h2
theorem jlim_eq {S E : Type} (step : S → Option (S ⊕ E)) (s : S) : jlim step s = match step s with
    | none => none
    | some (.inl s') => jlim step s'
    | some (.inr e) => some e := by
  apply Option.ext
  intro e
  rw [jlim_iff]
  constructor
  · rintro ⟨n, hn⟩
    cases n with
    | zero => cases hn
    | succ n =>
      unfold jit at hn
      cases hs : step s with
      | none => rw [hs] at hn; cases hn
      | some z =>
        rw [hs] at hn
        cases z with
        | inl s' => exact jlim_iff.mpr ⟨n, hn⟩
        | inr e' => exact hn
  · intro h
    cases hs : step s with
    | none => rw [hs] at h; cases h
    | some z =>
      rw [hs] at h
      cases z with
      | inl s' =>
        obtain ⟨n, hn⟩ := jlim_iff.mp h
        refine ⟨n + 1, ?_⟩
        unfold jit
        rw [hs]
        exact hn
      | inr e' =>
        refine ⟨1, ?_⟩
        unfold jit
        rw [hs]
        exact h
theorem jlim_ok {S E : Type} {step : S → Option (S ⊕ E)} {G : S → Prop} {GX : E → Prop} (hs : ∀ s z, step s = some z → (∀ s', z = .inl s' → G s') → (∀ e, z = .inr e → GX e) → G s) {s : S} {x : E} (K : jlim step s = some x) (hx : GX x) : G s := by
  obtain ⟨n, hn⟩ := jlim_iff.mp K
  clear K
  induction n generalizing s with
  | zero => cases hn
  | succ n ih =>
    unfold jit at hn
    cases hz : step s with
    | none => rw [hz] at hn; cases hn
    | some z =>
      rw [hz] at hn
      refine hs s z hz (fun s' h => ?_) (fun e h => ?_)
      · subst h
        exact ih hn
      · subst h
        cases hn
        exact hx
def jR0_0 (f : Nat → Nat → Nat) : Nat → Nat → Nat := (jcr (jup (jcr (jcr (jup (jcr (jcr (jup (jup (jcr (jup (jcr (jcr (jup (jup (jcr (jup (jcr (jcr (jup (jup (jcr (jup (jcr (jcr (jup (jup (jcr (jup (jup (jcr (jup (jup (jcr (jcr (jup (jup (jcr (jcr (jcr f 1 0) 2 0) 3 0) 2 0 3) 1 0 2) 4 0) 5 0) 4 0 5) 1 1 4) 6 0) 6 0 2) 1 2 6) 7 0) 7 0 6) 1 3 7) 8 0) 9 0) 8 0 9) 10 0) 8 1 10) 1 4 8) 11 0) 12 0) 11 2 12) 13 0) 11 3 13) 1 5 11) 14 0) 15 0) 14 2 15) 16 0) 14 3 16) 1 6 14) 17 0) 18 0) 17 0 18) 19 0) 20 0) 19 2 20) 21 0)
def jR0_1 (f : Nat → Nat → Nat) : Nat → Nat → Nat := (jcr (jcr (jup (jup (jcr (jup (jcr (jcr (jup (jup (jcr (jup (jcr (jcr (jup (jup (jcr (jup (jcr (jcr (jup (jup (jcr (jup (jcr (jcr (jup (jup (jcr (jup (jcr (jcr (jup (jup (jcr (jup (jcr (jcr (jup (jup f 19 3 21) 18 0 19) 22 0) 23 0) 22 2 23) 24 0) 22 3 24) 18 1 22) 25 0) 26 0) 25 2 26) 27 0) 25 3 27) 18 2 25) 28 0) 29 0) 28 2 29) 30 0) 28 3 30) 18 3 28) 31 0) 32 0) 31 2 32) 33 0) 31 3 33) 18 4 31) 34 0) 35 0) 34 2 35) 36 0) 34 3 36) 18 5 34) 37 0) 38 0) 37 2 38) 39 0) 37 3 39) 18 6 37) 40 0) 41 0)
def jR0_2 (f : Nat → Nat → Nat) : Nat → Nat → Nat := (jup (jup (jcr (jup (jcr (jcr (jup (jup (jcr (jup (jcr (jcr (jup (jup (jcr (jup (jcr (jcr (jup (jup (jcr (jup (jcr (jcr (jup (jup (jcr (jup (jcr (jcr (jup (jup (jcr (jup (jcr (jcr (jup (jup (jcr (jup f 40 2 41) 42 0) 40 3 42) 18 7 40) 43 0) 44 0) 43 2 44) 45 0) 43 3 45) 18 8 43) 46 0) 47 0) 46 2 47) 48 0) 46 3 48) 18 9 46) 49 0) 50 0) 49 2 50) 51 0) 49 3 51) 18 10 49) 52 0) 53 0) 52 2 53) 54 0) 52 3 54) 18 11 52) 55 0) 56 0) 55 2 56) 57 0) 55 3 57) 18 12 55) 58 0) 59 0) 58 2 59) 60 0) 58 3 60) 18 13 58)
def jR0_3 (f : Nat → Nat → Nat) : Nat → Nat → Nat := (jcr (jup (jcr (jup (jup (jup (jcr (jup (jcr (jcr (jup (jup (jcr (jup (jcr (jcr (jup (jup (jcr (jup (jcr (jcr (jup (jup (jcr (jup (jcr (jcr (jup (jup (jcr (jup (jcr (jcr (jup (jup (jcr (jup (jcr (jcr f 61 0) 62 0) 61 2 62) 63 0) 61 3 63) 18 14 61) 64 0) 65 0) 64 2 65) 66 0) 64 3 66) 18 15 64) 67 0) 68 0) 67 2 68) 69 0) 67 3 69) 18 16 67) 70 0) 71 0) 70 2 71) 72 0) 70 3 72) 18 17 70) 73 0) 74 0) 73 2 74) 75 0) 73 3 75) 18 18 73) 76 0) 77 0) 76 2 77) 78 0) 76 3 78) 18 19 76) 1 7 17) 79 0) 79 0 11) 80 0)
def jR0_4 (f : Nat → Nat → Nat) : Nat → Nat → Nat := (jup (jcr (jcr (jup (jcr (jup (jup (jcr (jup (jup (jup (jup (jcr (jup (jcr (jcr (jup (jcr (jup (jcr (jup (jcr (jup (jcr (jup (jcr (jup (jcr (jup (jcr (jup (jcr (jcr (jup (jcr (jup (jcr (jup (jup (jcr f 81 0) 80 0 81) 79 1 80) 82 0) 79 2 82) 83 0) 79 3 83) 84 0) 85 0) 84 10 85) 86 0) 84 11 86) 87 0) 84 12 87) 88 0) 84 13 88) 89 0) 84 14 89) 90 0) 84 15 90) 91 0) 84 16 91) 92 0) 84 17 92) 93 0) 94 0) 93 0 94) 95 0) 93 1 95) 84 18 93) 79 4 84) 1 8 79) 96 0) 96 0 79) 1 9 96) 97 0) 1 10 97) 98 0) 99 0) 98 10 99)
def jR0_5 (f : Nat → Nat → Nat) : Nat → Nat → Nat := (jup (jcr (jup (jcr (jup (jcr (jup (jcr (jup (jcr (jup (jcr (jup (jcr (jup (jcr (jup (jcr (jcr (jup (jup (jup (jcr (jup (jcr (jcr (jup (jcr (jup (jcr (jup (jcr (jup (jcr (jup (jcr (jup (jcr (jup (jcr f 100 0) 98 11 100) 101 0) 98 12 101) 102 0) 98 13 102) 103 0) 98 14 103) 104 0) 98 15 104) 105 0) 98 16 105) 106 0) 98 17 106) 107 0) 108 0) 107 0 108) 109 0) 107 1 109) 98 18 107) 1 11 98) 110 0) 111 0) 110 0 111) 112 0) 110 9 112) 113 0) 110 10 113) 114 0) 110 11 114) 115 0) 110 12 115) 116 0) 110 13 116) 117 0) 110 14 117) 118 0) 110 15 118) 119 0) 110 16 119)
def jR0_6 (f : Nat → Nat → Nat) : Nat → Nat → Nat := (jup (jcr (jup (jcr (jup (jcr (jup (jcr (jup (jcr (jup (jcr (jup (jcr (jup (jcr (jup (jcr (jup (jcr (jup (jcr (jup (jcr (jup (jcr (jup (jcr (jup (jcr (jup (jcr (jup (jcr (jup (jcr (jup (jcr (jup (jcr f 120 0) 110 17 120) 121 0) 110 18 121) 122 0) 110 19 122) 123 0) 110 20 123) 124 0) 110 21 124) 125 0) 110 22 125) 126 0) 110 23 126) 127 0) 110 24 127) 128 0) 110 25 128) 129 0) 110 26 129) 130 0) 110 27 130) 131 0) 110 28 131) 132 0) 110 29 132) 133 0) 110 30 133) 134 0) 110 31 134) 135 0) 110 32 135) 136 0) 110 33 136) 137 0) 110 34 137) 138 0) 110 36 138) 139 0) 110 37 139)
def jR0_7 (f : Nat → Nat → Nat) : Nat → Nat → Nat := (jup (jcr (jup (jcr (jup (jcr (jup (jcr (jup (jcr (jup (jcr (jup (jcr (jup (jcr (jup (jcr (jup (jcr (jup (jcr (jup (jcr (jup (jcr (jup (jcr (jup (jcr (jup (jcr (jup (jcr (jup (jcr (jup (jcr (jup (jcr f 140 0) 110 38 140) 141 0) 110 39 141) 142 0) 110 40 142) 143 0) 110 41 143) 144 0) 110 42 144) 145 0) 110 43 145) 146 0) 110 44 146) 147 0) 110 45 147) 148 0) 110 50 148) 149 0) 110 51 149) 150 0) 110 52 150) 151 0) 110 54 151) 152 0) 110 55 152) 153 0) 110 59 153) 154 0) 110 60 154) 155 0) 110 61 155) 156 0) 110 62 156) 157 0) 110 63 157) 158 0) 110 64 158) 159 0) 110 65 159)
def jR0_8 (f : Nat → Nat → Nat) : Nat → Nat → Nat := (jup (jcr (jup (jcr (jup (jcr (jup (jcr (jup (jcr (jup (jcr (jup (jcr (jup (jcr (jup (jcr (jup (jcr (jup (jcr (jup (jcr (jup (jcr (jup (jcr (jup (jcr (jup (jcr (jup (jcr f 160 0) 110 66 160) 161 0) 110 67 161) 162 0) 110 68 162) 163 0) 110 69 163) 164 0) 110 70 164) 165 0) 110 71 165) 166 0) 110 72 166) 167 0) 110 73 167) 168 0) 110 74 168) 169 0) 110 75 169) 170 0) 110 76 170) 171 0) 110 77 171) 172 0) 110 78 172) 173 0) 110 79 173) 174 0) 110 81 174) 175 0) 110 85 175) 176 0) 110 89 176)
def jR0 : Nat → Nat → Nat := (jR0_8 (jR0_7 (jR0_6 (jR0_5 (jR0_4 (jR0_3 (jR0_2 (jR0_1 (jR0_0 (fun _ _ => 0))))))))))
def jrtab : List (Nat × Nat × Nat) := [(1, 0, 2), (1, 1, 4), (1, 2, 6), (1, 3, 7), (1, 4, 8), (1, 5, 11), (1, 6, 14), (1, 7, 17), (1, 8, 79), (1, 9, 96), (1, 10, 97), (6, 0, 2), (7, 0, 6), (17, 0, 18), (79, 0, 11), (79, 1, 80), (79, 2, 82), (79, 3, 83), (80, 0, 81), (96, 0, 79), (110, 0, 111), (110, 9, 112), (110, 10, 113), (110, 11, 114), (110, 12, 115), (110, 13, 116), (110, 14, 117), (110, 15, 118), (110, 16, 119), (110, 17, 120), (110, 18, 121), (110, 19, 122), (110, 20, 123), (110, 21, 124), (110, 22, 125), (110, 23, 126), (110, 24, 127), (110, 25, 128), (110, 26, 129), (110, 27, 130), (110, 28, 131), (110, 29, 132), (110, 30, 133), (110, 31, 134), (110, 32, 135), (110, 33, 136), (110, 34, 137), (110, 36, 138), (110, 37, 139), (110, 38, 140), (110, 39, 141), (110, 40, 142), (110, 41, 143), (110, 42, 144), (110, 43, 145), (110, 44, 146), (110, 45, 147), (110, 50, 148), (110, 51, 149), (110, 52, 150), (110, 54, 151), (110, 55, 152), (110, 59, 153), (110, 60, 154), (110, 61, 155), (110, 62, 156), (110, 63, 157), (110, 64, 158), (110, 65, 159), (110, 66, 160), (110, 67, 161), (110, 68, 162), (110, 69, 163), (110, 70, 164), (110, 71, 165), (110, 72, 166), (110, 73, 167), (110, 74, 168), (110, 75, 169), (110, 76, 170), (110, 77, 171), (110, 78, 172), (110, 79, 173), (110, 81, 174), (110, 85, 175), (110, 89, 176)]
theorem jR0_tab : jrtab.all (fun x => jR0 x.1 x.2.1 == x.2.2) = true := by decide +kernel
theorem jR0_at {i o k v : Nat} (h : jrtab[i]? = some (o, k, v)) : jR0 o k = v := by
  have := List.all_eq_true.mp jR0_tab (o, k, v) (List.mem_of_getElem? h)
  simpa using this
/-- the references: p the wedding's, d the draft, q the rows of Past; the others stay -/
def jRf (p d : Nat) (q : Nat → Nat) : jR := jup (jup (fun o k => if o = 18 then q k else jR0 o k) 79 4 p) 1 11 d
def jqs (q : Nat → Nat) (i x : Nat) : Nat → Nat := fun k => if k = i then x else q k
def jOK (p d : Nat) (q : Nat → Nat) : Prop := jcl 176 p = 10 ∧ jcl 176 d = 10 ∧ ∀ k, k < 20 → jcl 176 (q k) = 6
theorem jOK_p {p d : Nat} {q : Nat → Nat} (h : jOK p d q) {v : Nat} (hv : jcl 176 v = 10) : jOK v d q := ⟨hv, h.2⟩
theorem jOK_d {p d : Nat} {q : Nat → Nat} (h : jOK p d q) {v : Nat} (hv : jcl 176 v = 10) : jOK p v q := ⟨h.1, hv, h.2.2⟩
theorem jOK_q {p d : Nat} {q : Nat → Nat} (h : jOK p d q) {i x : Nat} (hv : jcl 176 x = 6) : jOK p d (jqs q i x) := ⟨h.1, h.2.1, fun k hk => by
  unfold jqs
  split
  · exact hv
  · exact h.2.2 k hk⟩
theorem jrf_of {p d : Nat} {q : Nat → Nat} {o k v : Nat} (h1 : ((o == 1 && k == 11) || (o == 79 && k == 4) || o == 18) = false) (h2 : jR0 o k = v) : jRf p d q o k = v := by
  simp only [Bool.or_eq_false_iff, Bool.and_eq_false_iff, beq_eq_false_iff_ne] at h1
  show jup (jup (fun o k => if o = 18 then q k else jR0 o k) 79 4 p) 1 11 d o k = v
  unfold jup
  rw [if_neg (by rintro ⟨rfl, rfl⟩; omega), if_neg (by rintro ⟨rfl, rfl⟩; omega)]
  show (if o = 18 then q k else jR0 o k) = v
  rw [if_neg (by omega)]
  exact h2
theorem jr_8_4 {p d : Nat} {q : Nat → Nat} : jRf p d q 79 4 = p := rfl
theorem jr_1_11 {p d : Nat} {q : Nat → Nat} : jRf p d q 1 11 = d := rfl
theorem jRf_p {p d v : Nat} {q : Nat → Nat} : jup (jRf p d q) 79 4 v = jRf v d q := by
  funext o k
  unfold jRf jup
  by_cases h : o = 79 ∧ k = 4
  · obtain ⟨rfl, rfl⟩ := h
    simp
  · simp [h]
theorem jRf_d {p d v : Nat} {q : Nat → Nat} : jup (jRf p d q) 1 11 v = jRf p v q := by
  funext o k
  unfold jRf jup
  by_cases h : o = 1 ∧ k = 11
  · obtain ⟨rfl, rfl⟩ := h
    simp
  · simp [h]
theorem jRf_q {p d i v : Nat} {q : Nat → Nat} : jup (jRf p d q) 18 i v = jRf p d (jqs q i v) := by
  funext o k
  unfold jRf jup jqs
  by_cases h : o = 18
  · subst h
    by_cases h2 : k = i
    · simp [h2]
    · simp [h2]
  · simp [h]
theorem jcl_le {c v : Nat} (h : jcl 176 v = c) (hc : 1 ≤ c ∧ c ≤ 12) : v < 177 := by
  unfold jcl at h
  split at h
  · omega
  · split at h
    · omega
    · split at h
      · omega
      · split at h
        · omega
        · split at h <;> omega
theorem jmul {c : Nat} {P : Nat → Bool} (hc : 1 ≤ c ∧ c ≤ 12) (ht : (List.range 177).all (fun o => !(jcl 176 o == c) || P o) = true) {o : Nat} (ho : jcl 176 o = c) : P o = true := by
  have := List.all_eq_true.mp ht o (List.mem_range.mpr (jcl_le ho hc))
  simpa [ho] using this
theorem jr_1_0 {p d : Nat} {q : Nat → Nat} : jRf p d q 1 0 = 2 := jrf_of rfl (jR0_at (i := 0) rfl)
theorem jr_1_1 {p d : Nat} {q : Nat → Nat} : jRf p d q 1 1 = 4 := jrf_of rfl (jR0_at (i := 1) rfl)
theorem jr_1_2 {p d : Nat} {q : Nat → Nat} : jRf p d q 1 2 = 6 := jrf_of rfl (jR0_at (i := 2) rfl)
theorem jr_1_3 {p d : Nat} {q : Nat → Nat} : jRf p d q 1 3 = 7 := jrf_of rfl (jR0_at (i := 3) rfl)
theorem jr_1_4 {p d : Nat} {q : Nat → Nat} : jRf p d q 1 4 = 8 := jrf_of rfl (jR0_at (i := 4) rfl)
theorem jr_1_5 {p d : Nat} {q : Nat → Nat} : jRf p d q 1 5 = 11 := jrf_of rfl (jR0_at (i := 5) rfl)
theorem jr_1_6 {p d : Nat} {q : Nat → Nat} : jRf p d q 1 6 = 14 := jrf_of rfl (jR0_at (i := 6) rfl)
theorem jr_1_7 {p d : Nat} {q : Nat → Nat} : jRf p d q 1 7 = 17 := jrf_of rfl (jR0_at (i := 7) rfl)
theorem jr_1_8 {p d : Nat} {q : Nat → Nat} : jRf p d q 1 8 = 79 := jrf_of rfl (jR0_at (i := 8) rfl)
theorem jr_1_9 {p d : Nat} {q : Nat → Nat} : jRf p d q 1 9 = 96 := jrf_of rfl (jR0_at (i := 9) rfl)
theorem jr_1_10 {p d : Nat} {q : Nat → Nat} : jRf p d q 1 10 = 97 := jrf_of rfl (jR0_at (i := 10) rfl)
theorem jr_3_0 {p d : Nat} {q : Nat → Nat} : jRf p d q 6 0 = 2 := jrf_of rfl (jR0_at (i := 11) rfl)
theorem jr_4_0 {p d : Nat} {q : Nat → Nat} : jRf p d q 7 0 = 6 := jrf_of rfl (jR0_at (i := 12) rfl)
theorem jr_7_0 {p d : Nat} {q : Nat → Nat} : jRf p d q 17 0 = 18 := jrf_of rfl (jR0_at (i := 13) rfl)
theorem jr_8_0 {p d : Nat} {q : Nat → Nat} : jRf p d q 79 0 = 11 := jrf_of rfl (jR0_at (i := 14) rfl)
theorem jr_8_1 {p d : Nat} {q : Nat → Nat} : jRf p d q 79 1 = 80 := jrf_of rfl (jR0_at (i := 15) rfl)
theorem jr_8_2 {p d : Nat} {q : Nat → Nat} : jRf p d q 79 2 = 82 := jrf_of rfl (jR0_at (i := 16) rfl)
theorem jr_8_3 {p d : Nat} {q : Nat → Nat} : jRf p d q 79 3 = 83 := jrf_of rfl (jR0_at (i := 17) rfl)
theorem jr_9_0 {p d : Nat} {q : Nat → Nat} : jRf p d q 80 0 = 81 := jrf_of rfl (jR0_at (i := 18) rfl)
theorem jr_11_0 {p d : Nat} {q : Nat → Nat} : jRf p d q 96 0 = 79 := jrf_of rfl (jR0_at (i := 19) rfl)
theorem jr_12_0 {p d : Nat} {q : Nat → Nat} : jRf p d q 110 0 = 111 := jrf_of rfl (jR0_at (i := 20) rfl)
theorem jr_12_9 {p d : Nat} {q : Nat → Nat} : jRf p d q 110 9 = 112 := jrf_of rfl (jR0_at (i := 21) rfl)
theorem jr_12_10 {p d : Nat} {q : Nat → Nat} : jRf p d q 110 10 = 113 := jrf_of rfl (jR0_at (i := 22) rfl)
theorem jr_12_11 {p d : Nat} {q : Nat → Nat} : jRf p d q 110 11 = 114 := jrf_of rfl (jR0_at (i := 23) rfl)
theorem jr_12_12 {p d : Nat} {q : Nat → Nat} : jRf p d q 110 12 = 115 := jrf_of rfl (jR0_at (i := 24) rfl)
theorem jr_12_13 {p d : Nat} {q : Nat → Nat} : jRf p d q 110 13 = 116 := jrf_of rfl (jR0_at (i := 25) rfl)
theorem jr_12_14 {p d : Nat} {q : Nat → Nat} : jRf p d q 110 14 = 117 := jrf_of rfl (jR0_at (i := 26) rfl)
theorem jr_12_15 {p d : Nat} {q : Nat → Nat} : jRf p d q 110 15 = 118 := jrf_of rfl (jR0_at (i := 27) rfl)
theorem jr_12_16 {p d : Nat} {q : Nat → Nat} : jRf p d q 110 16 = 119 := jrf_of rfl (jR0_at (i := 28) rfl)
theorem jr_12_17 {p d : Nat} {q : Nat → Nat} : jRf p d q 110 17 = 120 := jrf_of rfl (jR0_at (i := 29) rfl)
theorem jr_12_18 {p d : Nat} {q : Nat → Nat} : jRf p d q 110 18 = 121 := jrf_of rfl (jR0_at (i := 30) rfl)
theorem jr_12_19 {p d : Nat} {q : Nat → Nat} : jRf p d q 110 19 = 122 := jrf_of rfl (jR0_at (i := 31) rfl)
theorem jr_12_20 {p d : Nat} {q : Nat → Nat} : jRf p d q 110 20 = 123 := jrf_of rfl (jR0_at (i := 32) rfl)
theorem jr_12_21 {p d : Nat} {q : Nat → Nat} : jRf p d q 110 21 = 124 := jrf_of rfl (jR0_at (i := 33) rfl)
theorem jr_12_22 {p d : Nat} {q : Nat → Nat} : jRf p d q 110 22 = 125 := jrf_of rfl (jR0_at (i := 34) rfl)
theorem jr_12_23 {p d : Nat} {q : Nat → Nat} : jRf p d q 110 23 = 126 := jrf_of rfl (jR0_at (i := 35) rfl)
theorem jr_12_24 {p d : Nat} {q : Nat → Nat} : jRf p d q 110 24 = 127 := jrf_of rfl (jR0_at (i := 36) rfl)
theorem jr_12_25 {p d : Nat} {q : Nat → Nat} : jRf p d q 110 25 = 128 := jrf_of rfl (jR0_at (i := 37) rfl)
theorem jr_12_26 {p d : Nat} {q : Nat → Nat} : jRf p d q 110 26 = 129 := jrf_of rfl (jR0_at (i := 38) rfl)
theorem jr_12_27 {p d : Nat} {q : Nat → Nat} : jRf p d q 110 27 = 130 := jrf_of rfl (jR0_at (i := 39) rfl)
theorem jr_12_28 {p d : Nat} {q : Nat → Nat} : jRf p d q 110 28 = 131 := jrf_of rfl (jR0_at (i := 40) rfl)
theorem jr_12_29 {p d : Nat} {q : Nat → Nat} : jRf p d q 110 29 = 132 := jrf_of rfl (jR0_at (i := 41) rfl)
theorem jr_12_30 {p d : Nat} {q : Nat → Nat} : jRf p d q 110 30 = 133 := jrf_of rfl (jR0_at (i := 42) rfl)
theorem jr_12_31 {p d : Nat} {q : Nat → Nat} : jRf p d q 110 31 = 134 := jrf_of rfl (jR0_at (i := 43) rfl)
theorem jr_12_32 {p d : Nat} {q : Nat → Nat} : jRf p d q 110 32 = 135 := jrf_of rfl (jR0_at (i := 44) rfl)
theorem jr_12_33 {p d : Nat} {q : Nat → Nat} : jRf p d q 110 33 = 136 := jrf_of rfl (jR0_at (i := 45) rfl)
theorem jr_12_34 {p d : Nat} {q : Nat → Nat} : jRf p d q 110 34 = 137 := jrf_of rfl (jR0_at (i := 46) rfl)
theorem jr_12_36 {p d : Nat} {q : Nat → Nat} : jRf p d q 110 36 = 138 := jrf_of rfl (jR0_at (i := 47) rfl)
theorem jr_12_37 {p d : Nat} {q : Nat → Nat} : jRf p d q 110 37 = 139 := jrf_of rfl (jR0_at (i := 48) rfl)
theorem jr_12_38 {p d : Nat} {q : Nat → Nat} : jRf p d q 110 38 = 140 := jrf_of rfl (jR0_at (i := 49) rfl)
theorem jr_12_39 {p d : Nat} {q : Nat → Nat} : jRf p d q 110 39 = 141 := jrf_of rfl (jR0_at (i := 50) rfl)
theorem jr_12_40 {p d : Nat} {q : Nat → Nat} : jRf p d q 110 40 = 142 := jrf_of rfl (jR0_at (i := 51) rfl)
theorem jr_12_41 {p d : Nat} {q : Nat → Nat} : jRf p d q 110 41 = 143 := jrf_of rfl (jR0_at (i := 52) rfl)
theorem jr_12_42 {p d : Nat} {q : Nat → Nat} : jRf p d q 110 42 = 144 := jrf_of rfl (jR0_at (i := 53) rfl)
theorem jr_12_43 {p d : Nat} {q : Nat → Nat} : jRf p d q 110 43 = 145 := jrf_of rfl (jR0_at (i := 54) rfl)
theorem jr_12_44 {p d : Nat} {q : Nat → Nat} : jRf p d q 110 44 = 146 := jrf_of rfl (jR0_at (i := 55) rfl)
theorem jr_12_45 {p d : Nat} {q : Nat → Nat} : jRf p d q 110 45 = 147 := jrf_of rfl (jR0_at (i := 56) rfl)
theorem jr_12_50 {p d : Nat} {q : Nat → Nat} : jRf p d q 110 50 = 148 := jrf_of rfl (jR0_at (i := 57) rfl)
theorem jr_12_51 {p d : Nat} {q : Nat → Nat} : jRf p d q 110 51 = 149 := jrf_of rfl (jR0_at (i := 58) rfl)
theorem jr_12_52 {p d : Nat} {q : Nat → Nat} : jRf p d q 110 52 = 150 := jrf_of rfl (jR0_at (i := 59) rfl)
theorem jr_12_54 {p d : Nat} {q : Nat → Nat} : jRf p d q 110 54 = 151 := jrf_of rfl (jR0_at (i := 60) rfl)
theorem jr_12_55 {p d : Nat} {q : Nat → Nat} : jRf p d q 110 55 = 152 := jrf_of rfl (jR0_at (i := 61) rfl)
theorem jr_12_59 {p d : Nat} {q : Nat → Nat} : jRf p d q 110 59 = 153 := jrf_of rfl (jR0_at (i := 62) rfl)
theorem jr_12_60 {p d : Nat} {q : Nat → Nat} : jRf p d q 110 60 = 154 := jrf_of rfl (jR0_at (i := 63) rfl)
theorem jr_12_61 {p d : Nat} {q : Nat → Nat} : jRf p d q 110 61 = 155 := jrf_of rfl (jR0_at (i := 64) rfl)
theorem jr_12_62 {p d : Nat} {q : Nat → Nat} : jRf p d q 110 62 = 156 := jrf_of rfl (jR0_at (i := 65) rfl)
theorem jr_12_63 {p d : Nat} {q : Nat → Nat} : jRf p d q 110 63 = 157 := jrf_of rfl (jR0_at (i := 66) rfl)
theorem jr_12_64 {p d : Nat} {q : Nat → Nat} : jRf p d q 110 64 = 158 := jrf_of rfl (jR0_at (i := 67) rfl)
theorem jr_12_65 {p d : Nat} {q : Nat → Nat} : jRf p d q 110 65 = 159 := jrf_of rfl (jR0_at (i := 68) rfl)
theorem jr_12_66 {p d : Nat} {q : Nat → Nat} : jRf p d q 110 66 = 160 := jrf_of rfl (jR0_at (i := 69) rfl)
theorem jr_12_67 {p d : Nat} {q : Nat → Nat} : jRf p d q 110 67 = 161 := jrf_of rfl (jR0_at (i := 70) rfl)
theorem jr_12_68 {p d : Nat} {q : Nat → Nat} : jRf p d q 110 68 = 162 := jrf_of rfl (jR0_at (i := 71) rfl)
theorem jr_12_69 {p d : Nat} {q : Nat → Nat} : jRf p d q 110 69 = 163 := jrf_of rfl (jR0_at (i := 72) rfl)
theorem jr_12_70 {p d : Nat} {q : Nat → Nat} : jRf p d q 110 70 = 164 := jrf_of rfl (jR0_at (i := 73) rfl)
theorem jr_12_71 {p d : Nat} {q : Nat → Nat} : jRf p d q 110 71 = 165 := jrf_of rfl (jR0_at (i := 74) rfl)
theorem jr_12_72 {p d : Nat} {q : Nat → Nat} : jRf p d q 110 72 = 166 := jrf_of rfl (jR0_at (i := 75) rfl)
theorem jr_12_73 {p d : Nat} {q : Nat → Nat} : jRf p d q 110 73 = 167 := jrf_of rfl (jR0_at (i := 76) rfl)
theorem jr_12_74 {p d : Nat} {q : Nat → Nat} : jRf p d q 110 74 = 168 := jrf_of rfl (jR0_at (i := 77) rfl)
theorem jr_12_75 {p d : Nat} {q : Nat → Nat} : jRf p d q 110 75 = 169 := jrf_of rfl (jR0_at (i := 78) rfl)
theorem jr_12_76 {p d : Nat} {q : Nat → Nat} : jRf p d q 110 76 = 170 := jrf_of rfl (jR0_at (i := 79) rfl)
theorem jr_12_77 {p d : Nat} {q : Nat → Nat} : jRf p d q 110 77 = 171 := jrf_of rfl (jR0_at (i := 80) rfl)
theorem jr_12_78 {p d : Nat} {q : Nat → Nat} : jRf p d q 110 78 = 172 := jrf_of rfl (jR0_at (i := 81) rfl)
theorem jr_12_79 {p d : Nat} {q : Nat → Nat} : jRf p d q 110 79 = 173 := jrf_of rfl (jR0_at (i := 82) rfl)
theorem jr_12_81 {p d : Nat} {q : Nat → Nat} : jRf p d q 110 81 = 174 := jrf_of rfl (jR0_at (i := 83) rfl)
theorem jr_12_85 {p d : Nat} {q : Nat → Nat} : jRf p d q 110 85 = 175 := jrf_of rfl (jR0_at (i := 84) rfl)
theorem jr_12_89 {p d : Nat} {q : Nat → Nat} : jRf p d q 110 89 = 176 := jrf_of rfl (jR0_at (i := 85) rfl)
theorem jko_1 : jcl 176 1 = 1 := by decide +kernel
theorem jno_1 : (jsh 1).2 = 16 := by decide +kernel
theorem jko_2 : jcl 176 2 = 2 := by decide +kernel
theorem jno_2 : (jsh 2).2 = 2 := by decide +kernel
theorem jko_4 : jcl 176 4 = 2 := by decide +kernel
theorem jno_4 : (jsh 4).2 = 2 := by decide +kernel
theorem jko_6 : jcl 176 6 = 3 := by decide +kernel
theorem jno_6 : (jsh 6).2 = 7 := by decide +kernel
theorem jko_7 : jcl 176 7 = 4 := by decide +kernel
theorem jno_7 : (jsh 7).2 = 1 := by decide +kernel
theorem jko_8 : jcl 176 8 = 5 := by decide +kernel
theorem jno_8 : (jsh 8).2 = 4 := by decide +kernel
theorem jko_11 : jcl 176 11 = 6 := by decide +kernel
theorem jno_11 : (jsh 11).2 = 4 := by decide +kernel
theorem jko_14 : jcl 176 14 = 6 := by decide +kernel
theorem jno_14 : (jsh 14).2 = 4 := by decide +kernel
theorem jko_17 : jcl 176 17 = 7 := by decide +kernel
theorem jno_17 : (jsh 17).2 = 2 := by decide +kernel
theorem jko_18 : jcl 176 18 = 23 := by decide +kernel
theorem jno_18 : (jsh 18).2 = 20 := by decide +kernel
theorem jko_79 : jcl 176 79 = 8 := by decide +kernel
theorem jno_79 : (jsh 79).2 = 5 := by decide +kernel
theorem jko_80 : jcl 176 80 = 9 := by decide +kernel
theorem jno_80 : (jsh 80).2 = 2 := by decide +kernel
theorem jko_81 : jcl 176 81 = 21 := by decide +kernel
theorem jno_81 : (jsh 81).2 = 33 := by decide +kernel
theorem jko_82 : jcl 176 82 = 20 := by decide +kernel
theorem jno_82 : (jsh 82).2 = 7 := by decide +kernel
theorem jko_83 : jcl 176 83 = 20 := by decide +kernel
theorem jno_83 : (jsh 83).2 = 8 := by decide +kernel
theorem jko_96 : jcl 176 96 = 11 := by decide +kernel
theorem jno_96 : (jsh 96).2 = 6 := by decide +kernel
theorem jko_97 : jcl 176 97 = 20 := by decide +kernel
theorem jno_97 : (jsh 97).2 = 6 := by decide +kernel
theorem jko_110 : jcl 176 110 = 12 := by decide +kernel
theorem jno_110 : (jsh 110).2 = 91 := by decide +kernel
theorem jko_111 : jcl 176 111 = 20 := by decide +kernel
theorem jno_111 : (jsh 111).2 = 1600 := by decide +kernel
theorem jko_112 : jcl 176 112 = 20 := by decide +kernel
theorem jno_112 : (jsh 112).2 = 6 := by decide +kernel
theorem jko_113 : jcl 176 113 = 22 := by decide +kernel
theorem jno_113 : (jsh 113).2 = 5 := by decide +kernel
theorem jko_114 : jcl 176 114 = 22 := by decide +kernel
theorem jno_114 : (jsh 114).2 = 5 := by decide +kernel
theorem jko_115 : jcl 176 115 = 22 := by decide +kernel
theorem jno_115 : (jsh 115).2 = 5 := by decide +kernel
theorem jko_116 : jcl 176 116 = 22 := by decide +kernel
theorem jno_116 : (jsh 116).2 = 4 := by decide +kernel
theorem jko_117 : jcl 176 117 = 22 := by decide +kernel
theorem jno_117 : (jsh 117).2 = 5 := by decide +kernel
theorem jko_118 : jcl 176 118 = 22 := by decide +kernel
theorem jno_118 : (jsh 118).2 = 5 := by decide +kernel
theorem jko_119 : jcl 176 119 = 22 := by decide +kernel
theorem jno_119 : (jsh 119).2 = 3 := by decide +kernel
theorem jko_120 : jcl 176 120 = 22 := by decide +kernel
theorem jno_120 : (jsh 120).2 = 4 := by decide +kernel
theorem jko_121 : jcl 176 121 = 22 := by decide +kernel
theorem jno_121 : (jsh 121).2 = 6 := by decide +kernel
theorem jko_122 : jcl 176 122 = 22 := by decide +kernel
theorem jno_122 : (jsh 122).2 = 5 := by decide +kernel
theorem jko_123 : jcl 176 123 = 22 := by decide +kernel
theorem jno_123 : (jsh 123).2 = 5 := by decide +kernel
theorem jko_124 : jcl 176 124 = 22 := by decide +kernel
theorem jno_124 : (jsh 124).2 = 4 := by decide +kernel
theorem jko_125 : jcl 176 125 = 22 := by decide +kernel
theorem jno_125 : (jsh 125).2 = 5 := by decide +kernel
theorem jko_126 : jcl 176 126 = 22 := by decide +kernel
theorem jno_126 : (jsh 126).2 = 4 := by decide +kernel
theorem jko_127 : jcl 176 127 = 22 := by decide +kernel
theorem jno_127 : (jsh 127).2 = 4 := by decide +kernel
theorem jko_128 : jcl 176 128 = 22 := by decide +kernel
theorem jno_128 : (jsh 128).2 = 5 := by decide +kernel
theorem jko_129 : jcl 176 129 = 22 := by decide +kernel
theorem jno_129 : (jsh 129).2 = 4 := by decide +kernel
theorem jko_130 : jcl 176 130 = 22 := by decide +kernel
theorem jno_130 : (jsh 130).2 = 6 := by decide +kernel
theorem jko_131 : jcl 176 131 = 22 := by decide +kernel
theorem jno_131 : (jsh 131).2 = 3 := by decide +kernel
theorem jko_132 : jcl 176 132 = 22 := by decide +kernel
theorem jno_132 : (jsh 132).2 = 2 := by decide +kernel
theorem jko_133 : jcl 176 133 = 22 := by decide +kernel
theorem jno_133 : (jsh 133).2 = 3 := by decide +kernel
theorem jko_134 : jcl 176 134 = 22 := by decide +kernel
theorem jno_134 : (jsh 134).2 = 3 := by decide +kernel
theorem jko_135 : jcl 176 135 = 22 := by decide +kernel
theorem jno_135 : (jsh 135).2 = 3 := by decide +kernel
theorem jko_136 : jcl 176 136 = 22 := by decide +kernel
theorem jno_136 : (jsh 136).2 = 3 := by decide +kernel
theorem jko_137 : jcl 176 137 = 22 := by decide +kernel
theorem jno_137 : (jsh 137).2 = 3 := by decide +kernel
theorem jko_138 : jcl 176 138 = 20 := by decide +kernel
theorem jno_138 : (jsh 138).2 = 6 := by decide +kernel
theorem jko_139 : jcl 176 139 = 21 := by decide +kernel
theorem jno_139 : (jsh 139).2 = 16 := by decide +kernel
theorem jko_140 : jcl 176 140 = 20 := by decide +kernel
theorem jno_140 : (jsh 140).2 = 8 := by decide +kernel
theorem jko_141 : jcl 176 141 = 20 := by decide +kernel
theorem jno_141 : (jsh 141).2 = 64 := by decide +kernel
theorem jko_142 : jcl 176 142 = 20 := by decide +kernel
theorem jno_142 : (jsh 142).2 = 16 := by decide +kernel
theorem jko_143 : jcl 176 143 = 20 := by decide +kernel
theorem jno_143 : (jsh 143).2 = 16 := by decide +kernel
theorem jko_144 : jcl 176 144 = 20 := by decide +kernel
theorem jno_144 : (jsh 144).2 = 6 := by decide +kernel
theorem jko_145 : jcl 176 145 = 20 := by decide +kernel
theorem jno_145 : (jsh 145).2 = 2 := by decide +kernel
theorem jko_146 : jcl 176 146 = 20 := by decide +kernel
theorem jno_146 : (jsh 146).2 = 2 := by decide +kernel
theorem jko_147 : jcl 176 147 = 20 := by decide +kernel
theorem jno_147 : (jsh 147).2 = 3200 := by decide +kernel
theorem jko_148 : jcl 176 148 = 20 := by decide +kernel
theorem jno_148 : (jsh 148).2 = 18 := by decide +kernel
theorem jko_149 : jcl 176 149 = 20 := by decide +kernel
theorem jno_149 : (jsh 149).2 = 18 := by decide +kernel
theorem jko_150 : jcl 176 150 = 21 := by decide +kernel
theorem jno_150 : (jsh 150).2 = 33 := by decide +kernel
theorem jko_151 : jcl 176 151 = 21 := by decide +kernel
theorem jno_151 : (jsh 151).2 = 9 := by decide +kernel
theorem jko_152 : jcl 176 152 = 20 := by decide +kernel
theorem jno_152 : (jsh 152).2 = 360 := by decide +kernel
theorem jko_153 : jcl 176 153 = 22 := by decide +kernel
theorem jno_153 : (jsh 153).2 = 5 := by decide +kernel
theorem jko_154 : jcl 176 154 = 22 := by decide +kernel
theorem jno_154 : (jsh 154).2 = 4 := by decide +kernel
theorem jko_155 : jcl 176 155 = 22 := by decide +kernel
theorem jno_155 : (jsh 155).2 = 5 := by decide +kernel
theorem jko_156 : jcl 176 156 = 22 := by decide +kernel
theorem jno_156 : (jsh 156).2 = 5 := by decide +kernel
theorem jko_157 : jcl 176 157 = 22 := by decide +kernel
theorem jno_157 : (jsh 157).2 = 4 := by decide +kernel
theorem jko_158 : jcl 176 158 = 22 := by decide +kernel
theorem jno_158 : (jsh 158).2 = 5 := by decide +kernel
theorem jko_159 : jcl 176 159 = 22 := by decide +kernel
theorem jno_159 : (jsh 159).2 = 3 := by decide +kernel
theorem jko_160 : jcl 176 160 = 22 := by decide +kernel
theorem jno_160 : (jsh 160).2 = 3 := by decide +kernel
theorem jko_161 : jcl 176 161 = 22 := by decide +kernel
theorem jno_161 : (jsh 161).2 = 2 := by decide +kernel
theorem jko_162 : jcl 176 162 = 22 := by decide +kernel
theorem jno_162 : (jsh 162).2 = 3 := by decide +kernel
theorem jko_163 : jcl 176 163 = 22 := by decide +kernel
theorem jno_163 : (jsh 163).2 = 3 := by decide +kernel
theorem jko_164 : jcl 176 164 = 22 := by decide +kernel
theorem jno_164 : (jsh 164).2 = 3 := by decide +kernel
theorem jko_165 : jcl 176 165 = 22 := by decide +kernel
theorem jno_165 : (jsh 165).2 = 5 := by decide +kernel
theorem jko_166 : jcl 176 166 = 22 := by decide +kernel
theorem jno_166 : (jsh 166).2 = 6 := by decide +kernel
theorem jko_167 : jcl 176 167 = 22 := by decide +kernel
theorem jno_167 : (jsh 167).2 = 3 := by decide +kernel
theorem jko_168 : jcl 176 168 = 22 := by decide +kernel
theorem jno_168 : (jsh 168).2 = 4 := by decide +kernel
theorem jko_169 : jcl 176 169 = 22 := by decide +kernel
theorem jno_169 : (jsh 169).2 = 6 := by decide +kernel
theorem jko_170 : jcl 176 170 = 22 := by decide +kernel
theorem jno_170 : (jsh 170).2 = 3 := by decide +kernel
theorem jko_171 : jcl 176 171 = 22 := by decide +kernel
theorem jno_171 : (jsh 171).2 = 5 := by decide +kernel
theorem jko_172 : jcl 176 172 = 22 := by decide +kernel
theorem jno_172 : (jsh 172).2 = 5 := by decide +kernel
theorem jko_173 : jcl 176 173 = 20 := by decide +kernel
theorem jno_173 : (jsh 173).2 = 1700 := by decide +kernel
theorem jko_174 : jcl 176 174 = 20 := by decide +kernel
theorem jno_174 : (jsh 174).2 = 1700 := by decide +kernel
theorem jko_175 : jcl 176 175 = 21 := by decide +kernel
theorem jno_175 : (jsh 175).2 = 1700 := by decide +kernel
theorem jko_176 : jcl 176 176 = 20 := by decide +kernel
theorem jno_176 : (jsh 176).2 = 29 := by decide +kernel
theorem jrt_2_0 : (List.range 177).all (fun o => !(jcl 176 o == 2) || (jR0 o 0 == o + 1 && jcl 176 (o + 1) == 20 && !(o == 1) && !(o == 79) && !(o == 18))) = true := by decide +kernel
theorem jrm_2_0 {p d : Nat} {q : Nat → Nat} {o : Nat} (ho : jcl 176 o = 2) : jRf p d q o 0 = o + 1 := (by
  have := jmul (by omega) jrt_2_0 ho
  simp only [Bool.and_eq_true, beq_iff_eq, Bool.not_eq_true', beq_eq_false_iff_ne] at this
  obtain ⟨⟨⟨⟨h1, h2⟩, h3⟩, h4⟩, h5⟩ := this
  exact jrf_of (by simp [h3, h4, h5]) h1)
theorem jkm_2_0 {o : Nat} (ho : jcl 176 o = 2) : jcl 176 (o + 1) = 20 := (by
  have := jmul (by omega) jrt_2_0 ho
  simp only [Bool.and_eq_true, beq_iff_eq, Bool.not_eq_true', beq_eq_false_iff_ne] at this
  obtain ⟨⟨⟨⟨h1, h2⟩, h3⟩, h4⟩, h5⟩ := this
  exact h2)
theorem jrt_5_0 : (List.range 177).all (fun o => !(jcl 176 o == 5) || (jR0 o 0 == o + 1 && jcl 176 (o + 1) == 20 && !(o == 1) && !(o == 79) && !(o == 18) && (jsh (o + 1)).2 == 1600)) = true := by decide +kernel
theorem jrm_5_0 {p d : Nat} {q : Nat → Nat} {o : Nat} (ho : jcl 176 o = 5) : jRf p d q o 0 = o + 1 := (by
  have := jmul (by omega) jrt_5_0 ho
  simp only [Bool.and_eq_true, beq_iff_eq, Bool.not_eq_true', beq_eq_false_iff_ne] at this
  obtain ⟨⟨⟨⟨⟨h1, h2⟩, h3⟩, h4⟩, h5⟩, h6⟩ := this
  exact jrf_of (by simp [h3, h4, h5]) h1)
theorem jkm_5_0 {o : Nat} (ho : jcl 176 o = 5) : jcl 176 (o + 1) = 20 := (by
  have := jmul (by omega) jrt_5_0 ho
  simp only [Bool.and_eq_true, beq_iff_eq, Bool.not_eq_true', beq_eq_false_iff_ne] at this
  obtain ⟨⟨⟨⟨⟨h1, h2⟩, h3⟩, h4⟩, h5⟩, h6⟩ := this
  exact h2)
theorem jnm_5_0 {o : Nat} (ho : jcl 176 o = 5) : (jsh (o + 1)).2 = 1600 := (by
  have := jmul (by omega) jrt_5_0 ho
  simp only [Bool.and_eq_true, beq_iff_eq, Bool.not_eq_true', beq_eq_false_iff_ne] at this
  obtain ⟨⟨⟨⟨⟨h1, h2⟩, h3⟩, h4⟩, h5⟩, h6⟩ := this
  exact h6)
theorem jrt_5_1 : (List.range 177).all (fun o => !(jcl 176 o == 5) || (jR0 o 1 == o + 2 && jcl 176 (o + 2) == 20 && !(o == 1) && !(o == 79) && !(o == 18) && (jsh (o + 2)).2 == 64)) = true := by decide +kernel
theorem jrm_5_1 {p d : Nat} {q : Nat → Nat} {o : Nat} (ho : jcl 176 o = 5) : jRf p d q o 1 = o + 2 := (by
  have := jmul (by omega) jrt_5_1 ho
  simp only [Bool.and_eq_true, beq_iff_eq, Bool.not_eq_true', beq_eq_false_iff_ne] at this
  obtain ⟨⟨⟨⟨⟨h1, h2⟩, h3⟩, h4⟩, h5⟩, h6⟩ := this
  exact jrf_of (by simp [h3, h4, h5]) h1)
theorem jkm_5_1 {o : Nat} (ho : jcl 176 o = 5) : jcl 176 (o + 2) = 20 := (by
  have := jmul (by omega) jrt_5_1 ho
  simp only [Bool.and_eq_true, beq_iff_eq, Bool.not_eq_true', beq_eq_false_iff_ne] at this
  obtain ⟨⟨⟨⟨⟨h1, h2⟩, h3⟩, h4⟩, h5⟩, h6⟩ := this
  exact h2)
theorem jnm_5_1 {o : Nat} (ho : jcl 176 o = 5) : (jsh (o + 2)).2 = 64 := (by
  have := jmul (by omega) jrt_5_1 ho
  simp only [Bool.and_eq_true, beq_iff_eq, Bool.not_eq_true', beq_eq_false_iff_ne] at this
  obtain ⟨⟨⟨⟨⟨h1, h2⟩, h3⟩, h4⟩, h5⟩, h6⟩ := this
  exact h6)
theorem jrt_6_2 : (List.range 177).all (fun o => !(jcl 176 o == 6) || (jR0 o 2 == o + 1 && jcl 176 (o + 1) == 20 && !(o == 1) && !(o == 79) && !(o == 18) && (jsh (o + 1)).2 == 8)) = true := by decide +kernel
theorem jrm_6_2 {p d : Nat} {q : Nat → Nat} {o : Nat} (ho : jcl 176 o = 6) : jRf p d q o 2 = o + 1 := (by
  have := jmul (by omega) jrt_6_2 ho
  simp only [Bool.and_eq_true, beq_iff_eq, Bool.not_eq_true', beq_eq_false_iff_ne] at this
  obtain ⟨⟨⟨⟨⟨h1, h2⟩, h3⟩, h4⟩, h5⟩, h6⟩ := this
  exact jrf_of (by simp [h3, h4, h5]) h1)
theorem jkm_6_2 {o : Nat} (ho : jcl 176 o = 6) : jcl 176 (o + 1) = 20 := (by
  have := jmul (by omega) jrt_6_2 ho
  simp only [Bool.and_eq_true, beq_iff_eq, Bool.not_eq_true', beq_eq_false_iff_ne] at this
  obtain ⟨⟨⟨⟨⟨h1, h2⟩, h3⟩, h4⟩, h5⟩, h6⟩ := this
  exact h2)
theorem jnm_6_2 {o : Nat} (ho : jcl 176 o = 6) : (jsh (o + 1)).2 = 8 := (by
  have := jmul (by omega) jrt_6_2 ho
  simp only [Bool.and_eq_true, beq_iff_eq, Bool.not_eq_true', beq_eq_false_iff_ne] at this
  obtain ⟨⟨⟨⟨⟨h1, h2⟩, h3⟩, h4⟩, h5⟩, h6⟩ := this
  exact h6)
theorem jrt_6_3 : (List.range 177).all (fun o => !(jcl 176 o == 6) || (jR0 o 3 == o + 2 && jcl 176 (o + 2) == 20 && !(o == 1) && !(o == 79) && !(o == 18) && (jsh (o + 2)).2 == 8)) = true := by decide +kernel
theorem jrm_6_3 {p d : Nat} {q : Nat → Nat} {o : Nat} (ho : jcl 176 o = 6) : jRf p d q o 3 = o + 2 := (by
  have := jmul (by omega) jrt_6_3 ho
  simp only [Bool.and_eq_true, beq_iff_eq, Bool.not_eq_true', beq_eq_false_iff_ne] at this
  obtain ⟨⟨⟨⟨⟨h1, h2⟩, h3⟩, h4⟩, h5⟩, h6⟩ := this
  exact jrf_of (by simp [h3, h4, h5]) h1)
theorem jkm_6_3 {o : Nat} (ho : jcl 176 o = 6) : jcl 176 (o + 2) = 20 := (by
  have := jmul (by omega) jrt_6_3 ho
  simp only [Bool.and_eq_true, beq_iff_eq, Bool.not_eq_true', beq_eq_false_iff_ne] at this
  obtain ⟨⟨⟨⟨⟨h1, h2⟩, h3⟩, h4⟩, h5⟩, h6⟩ := this
  exact h2)
theorem jnm_6_3 {o : Nat} (ho : jcl 176 o = 6) : (jsh (o + 2)).2 = 8 := (by
  have := jmul (by omega) jrt_6_3 ho
  simp only [Bool.and_eq_true, beq_iff_eq, Bool.not_eq_true', beq_eq_false_iff_ne] at this
  obtain ⟨⟨⟨⟨⟨h1, h2⟩, h3⟩, h4⟩, h5⟩, h6⟩ := this
  exact h6)
theorem jrt_10_10 : (List.range 177).all (fun o => !(jcl 176 o == 10) || (jR0 o 10 == o + 1 && jcl 176 (o + 1) == 20 && !(o == 1) && !(o == 79) && !(o == 18) && (jsh (o + 1)).2 == 8)) = true := by decide +kernel
theorem jrm_10_10 {p d : Nat} {q : Nat → Nat} {o : Nat} (ho : jcl 176 o = 10) : jRf p d q o 10 = o + 1 := (by
  have := jmul (by omega) jrt_10_10 ho
  simp only [Bool.and_eq_true, beq_iff_eq, Bool.not_eq_true', beq_eq_false_iff_ne] at this
  obtain ⟨⟨⟨⟨⟨h1, h2⟩, h3⟩, h4⟩, h5⟩, h6⟩ := this
  exact jrf_of (by simp [h3, h4, h5]) h1)
theorem jkm_10_10 {o : Nat} (ho : jcl 176 o = 10) : jcl 176 (o + 1) = 20 := (by
  have := jmul (by omega) jrt_10_10 ho
  simp only [Bool.and_eq_true, beq_iff_eq, Bool.not_eq_true', beq_eq_false_iff_ne] at this
  obtain ⟨⟨⟨⟨⟨h1, h2⟩, h3⟩, h4⟩, h5⟩, h6⟩ := this
  exact h2)
theorem jnm_10_10 {o : Nat} (ho : jcl 176 o = 10) : (jsh (o + 1)).2 = 8 := (by
  have := jmul (by omega) jrt_10_10 ho
  simp only [Bool.and_eq_true, beq_iff_eq, Bool.not_eq_true', beq_eq_false_iff_ne] at this
  obtain ⟨⟨⟨⟨⟨h1, h2⟩, h3⟩, h4⟩, h5⟩, h6⟩ := this
  exact h6)
theorem jrt_10_11 : (List.range 177).all (fun o => !(jcl 176 o == 10) || (jR0 o 11 == o + 2 && jcl 176 (o + 2) == 20 && !(o == 1) && !(o == 79) && !(o == 18) && (jsh (o + 2)).2 == 8)) = true := by decide +kernel
theorem jrm_10_11 {p d : Nat} {q : Nat → Nat} {o : Nat} (ho : jcl 176 o = 10) : jRf p d q o 11 = o + 2 := (by
  have := jmul (by omega) jrt_10_11 ho
  simp only [Bool.and_eq_true, beq_iff_eq, Bool.not_eq_true', beq_eq_false_iff_ne] at this
  obtain ⟨⟨⟨⟨⟨h1, h2⟩, h3⟩, h4⟩, h5⟩, h6⟩ := this
  exact jrf_of (by simp [h3, h4, h5]) h1)
theorem jkm_10_11 {o : Nat} (ho : jcl 176 o = 10) : jcl 176 (o + 2) = 20 := (by
  have := jmul (by omega) jrt_10_11 ho
  simp only [Bool.and_eq_true, beq_iff_eq, Bool.not_eq_true', beq_eq_false_iff_ne] at this
  obtain ⟨⟨⟨⟨⟨h1, h2⟩, h3⟩, h4⟩, h5⟩, h6⟩ := this
  exact h2)
theorem jnm_10_11 {o : Nat} (ho : jcl 176 o = 10) : (jsh (o + 2)).2 = 8 := (by
  have := jmul (by omega) jrt_10_11 ho
  simp only [Bool.and_eq_true, beq_iff_eq, Bool.not_eq_true', beq_eq_false_iff_ne] at this
  obtain ⟨⟨⟨⟨⟨h1, h2⟩, h3⟩, h4⟩, h5⟩, h6⟩ := this
  exact h6)
theorem jrt_10_12 : (List.range 177).all (fun o => !(jcl 176 o == 10) || (jR0 o 12 == o + 3 && jcl 176 (o + 3) == 20 && !(o == 1) && !(o == 79) && !(o == 18) && (jsh (o + 3)).2 == 8)) = true := by decide +kernel
theorem jrm_10_12 {p d : Nat} {q : Nat → Nat} {o : Nat} (ho : jcl 176 o = 10) : jRf p d q o 12 = o + 3 := (by
  have := jmul (by omega) jrt_10_12 ho
  simp only [Bool.and_eq_true, beq_iff_eq, Bool.not_eq_true', beq_eq_false_iff_ne] at this
  obtain ⟨⟨⟨⟨⟨h1, h2⟩, h3⟩, h4⟩, h5⟩, h6⟩ := this
  exact jrf_of (by simp [h3, h4, h5]) h1)
theorem jkm_10_12 {o : Nat} (ho : jcl 176 o = 10) : jcl 176 (o + 3) = 20 := (by
  have := jmul (by omega) jrt_10_12 ho
  simp only [Bool.and_eq_true, beq_iff_eq, Bool.not_eq_true', beq_eq_false_iff_ne] at this
  obtain ⟨⟨⟨⟨⟨h1, h2⟩, h3⟩, h4⟩, h5⟩, h6⟩ := this
  exact h2)
theorem jnm_10_12 {o : Nat} (ho : jcl 176 o = 10) : (jsh (o + 3)).2 = 8 := (by
  have := jmul (by omega) jrt_10_12 ho
  simp only [Bool.and_eq_true, beq_iff_eq, Bool.not_eq_true', beq_eq_false_iff_ne] at this
  obtain ⟨⟨⟨⟨⟨h1, h2⟩, h3⟩, h4⟩, h5⟩, h6⟩ := this
  exact h6)
theorem jrt_10_13 : (List.range 177).all (fun o => !(jcl 176 o == 10) || (jR0 o 13 == o + 4 && jcl 176 (o + 4) == 20 && !(o == 1) && !(o == 79) && !(o == 18) && (jsh (o + 4)).2 == 8)) = true := by decide +kernel
theorem jrm_10_13 {p d : Nat} {q : Nat → Nat} {o : Nat} (ho : jcl 176 o = 10) : jRf p d q o 13 = o + 4 := (by
  have := jmul (by omega) jrt_10_13 ho
  simp only [Bool.and_eq_true, beq_iff_eq, Bool.not_eq_true', beq_eq_false_iff_ne] at this
  obtain ⟨⟨⟨⟨⟨h1, h2⟩, h3⟩, h4⟩, h5⟩, h6⟩ := this
  exact jrf_of (by simp [h3, h4, h5]) h1)
theorem jkm_10_13 {o : Nat} (ho : jcl 176 o = 10) : jcl 176 (o + 4) = 20 := (by
  have := jmul (by omega) jrt_10_13 ho
  simp only [Bool.and_eq_true, beq_iff_eq, Bool.not_eq_true', beq_eq_false_iff_ne] at this
  obtain ⟨⟨⟨⟨⟨h1, h2⟩, h3⟩, h4⟩, h5⟩, h6⟩ := this
  exact h2)
theorem jnm_10_13 {o : Nat} (ho : jcl 176 o = 10) : (jsh (o + 4)).2 = 8 := (by
  have := jmul (by omega) jrt_10_13 ho
  simp only [Bool.and_eq_true, beq_iff_eq, Bool.not_eq_true', beq_eq_false_iff_ne] at this
  obtain ⟨⟨⟨⟨⟨h1, h2⟩, h3⟩, h4⟩, h5⟩, h6⟩ := this
  exact h6)
theorem jrt_10_14 : (List.range 177).all (fun o => !(jcl 176 o == 10) || (jR0 o 14 == o + 5 && jcl 176 (o + 5) == 20 && !(o == 1) && !(o == 79) && !(o == 18) && (jsh (o + 5)).2 == 8)) = true := by decide +kernel
theorem jrm_10_14 {p d : Nat} {q : Nat → Nat} {o : Nat} (ho : jcl 176 o = 10) : jRf p d q o 14 = o + 5 := (by
  have := jmul (by omega) jrt_10_14 ho
  simp only [Bool.and_eq_true, beq_iff_eq, Bool.not_eq_true', beq_eq_false_iff_ne] at this
  obtain ⟨⟨⟨⟨⟨h1, h2⟩, h3⟩, h4⟩, h5⟩, h6⟩ := this
  exact jrf_of (by simp [h3, h4, h5]) h1)
theorem jkm_10_14 {o : Nat} (ho : jcl 176 o = 10) : jcl 176 (o + 5) = 20 := (by
  have := jmul (by omega) jrt_10_14 ho
  simp only [Bool.and_eq_true, beq_iff_eq, Bool.not_eq_true', beq_eq_false_iff_ne] at this
  obtain ⟨⟨⟨⟨⟨h1, h2⟩, h3⟩, h4⟩, h5⟩, h6⟩ := this
  exact h2)
theorem jnm_10_14 {o : Nat} (ho : jcl 176 o = 10) : (jsh (o + 5)).2 = 8 := (by
  have := jmul (by omega) jrt_10_14 ho
  simp only [Bool.and_eq_true, beq_iff_eq, Bool.not_eq_true', beq_eq_false_iff_ne] at this
  obtain ⟨⟨⟨⟨⟨h1, h2⟩, h3⟩, h4⟩, h5⟩, h6⟩ := this
  exact h6)
theorem jrt_10_15 : (List.range 177).all (fun o => !(jcl 176 o == 10) || (jR0 o 15 == o + 6 && jcl 176 (o + 6) == 20 && !(o == 1) && !(o == 79) && !(o == 18) && (jsh (o + 6)).2 == 8)) = true := by decide +kernel
theorem jrm_10_15 {p d : Nat} {q : Nat → Nat} {o : Nat} (ho : jcl 176 o = 10) : jRf p d q o 15 = o + 6 := (by
  have := jmul (by omega) jrt_10_15 ho
  simp only [Bool.and_eq_true, beq_iff_eq, Bool.not_eq_true', beq_eq_false_iff_ne] at this
  obtain ⟨⟨⟨⟨⟨h1, h2⟩, h3⟩, h4⟩, h5⟩, h6⟩ := this
  exact jrf_of (by simp [h3, h4, h5]) h1)
theorem jkm_10_15 {o : Nat} (ho : jcl 176 o = 10) : jcl 176 (o + 6) = 20 := (by
  have := jmul (by omega) jrt_10_15 ho
  simp only [Bool.and_eq_true, beq_iff_eq, Bool.not_eq_true', beq_eq_false_iff_ne] at this
  obtain ⟨⟨⟨⟨⟨h1, h2⟩, h3⟩, h4⟩, h5⟩, h6⟩ := this
  exact h2)
theorem jnm_10_15 {o : Nat} (ho : jcl 176 o = 10) : (jsh (o + 6)).2 = 8 := (by
  have := jmul (by omega) jrt_10_15 ho
  simp only [Bool.and_eq_true, beq_iff_eq, Bool.not_eq_true', beq_eq_false_iff_ne] at this
  obtain ⟨⟨⟨⟨⟨h1, h2⟩, h3⟩, h4⟩, h5⟩, h6⟩ := this
  exact h6)
theorem jrt_10_16 : (List.range 177).all (fun o => !(jcl 176 o == 10) || (jR0 o 16 == o + 7 && jcl 176 (o + 7) == 20 && !(o == 1) && !(o == 79) && !(o == 18) && (jsh (o + 7)).2 == 8)) = true := by decide +kernel
theorem jrm_10_16 {p d : Nat} {q : Nat → Nat} {o : Nat} (ho : jcl 176 o = 10) : jRf p d q o 16 = o + 7 := (by
  have := jmul (by omega) jrt_10_16 ho
  simp only [Bool.and_eq_true, beq_iff_eq, Bool.not_eq_true', beq_eq_false_iff_ne] at this
  obtain ⟨⟨⟨⟨⟨h1, h2⟩, h3⟩, h4⟩, h5⟩, h6⟩ := this
  exact jrf_of (by simp [h3, h4, h5]) h1)
theorem jkm_10_16 {o : Nat} (ho : jcl 176 o = 10) : jcl 176 (o + 7) = 20 := (by
  have := jmul (by omega) jrt_10_16 ho
  simp only [Bool.and_eq_true, beq_iff_eq, Bool.not_eq_true', beq_eq_false_iff_ne] at this
  obtain ⟨⟨⟨⟨⟨h1, h2⟩, h3⟩, h4⟩, h5⟩, h6⟩ := this
  exact h2)
theorem jnm_10_16 {o : Nat} (ho : jcl 176 o = 10) : (jsh (o + 7)).2 = 8 := (by
  have := jmul (by omega) jrt_10_16 ho
  simp only [Bool.and_eq_true, beq_iff_eq, Bool.not_eq_true', beq_eq_false_iff_ne] at this
  obtain ⟨⟨⟨⟨⟨h1, h2⟩, h3⟩, h4⟩, h5⟩, h6⟩ := this
  exact h6)
theorem jrt_10_17 : (List.range 177).all (fun o => !(jcl 176 o == 10) || (jR0 o 17 == o + 8 && jcl 176 (o + 8) == 20 && !(o == 1) && !(o == 79) && !(o == 18) && (jsh (o + 8)).2 == 8)) = true := by decide +kernel
theorem jrm_10_17 {p d : Nat} {q : Nat → Nat} {o : Nat} (ho : jcl 176 o = 10) : jRf p d q o 17 = o + 8 := (by
  have := jmul (by omega) jrt_10_17 ho
  simp only [Bool.and_eq_true, beq_iff_eq, Bool.not_eq_true', beq_eq_false_iff_ne] at this
  obtain ⟨⟨⟨⟨⟨h1, h2⟩, h3⟩, h4⟩, h5⟩, h6⟩ := this
  exact jrf_of (by simp [h3, h4, h5]) h1)
theorem jkm_10_17 {o : Nat} (ho : jcl 176 o = 10) : jcl 176 (o + 8) = 20 := (by
  have := jmul (by omega) jrt_10_17 ho
  simp only [Bool.and_eq_true, beq_iff_eq, Bool.not_eq_true', beq_eq_false_iff_ne] at this
  obtain ⟨⟨⟨⟨⟨h1, h2⟩, h3⟩, h4⟩, h5⟩, h6⟩ := this
  exact h2)
theorem jnm_10_17 {o : Nat} (ho : jcl 176 o = 10) : (jsh (o + 8)).2 = 8 := (by
  have := jmul (by omega) jrt_10_17 ho
  simp only [Bool.and_eq_true, beq_iff_eq, Bool.not_eq_true', beq_eq_false_iff_ne] at this
  obtain ⟨⟨⟨⟨⟨h1, h2⟩, h3⟩, h4⟩, h5⟩, h6⟩ := this
  exact h6)
theorem jrt_10_18 : (List.range 177).all (fun o => !(jcl 176 o == 10) || (jR0 o 18 == o + 9 && jcl 176 (o + 9) == 5 && !(o == 1) && !(o == 79) && !(o == 18))) = true := by decide +kernel
theorem jrm_10_18 {p d : Nat} {q : Nat → Nat} {o : Nat} (ho : jcl 176 o = 10) : jRf p d q o 18 = o + 9 := (by
  have := jmul (by omega) jrt_10_18 ho
  simp only [Bool.and_eq_true, beq_iff_eq, Bool.not_eq_true', beq_eq_false_iff_ne] at this
  obtain ⟨⟨⟨⟨h1, h2⟩, h3⟩, h4⟩, h5⟩ := this
  exact jrf_of (by simp [h3, h4, h5]) h1)
theorem jkm_10_18 {o : Nat} (ho : jcl 176 o = 10) : jcl 176 (o + 9) = 5 := (by
  have := jmul (by omega) jrt_10_18 ho
  simp only [Bool.and_eq_true, beq_iff_eq, Bool.not_eq_true', beq_eq_false_iff_ne] at this
  obtain ⟨⟨⟨⟨h1, h2⟩, h3⟩, h4⟩, h5⟩ := this
  exact h2)
section JRV
variable {X : jX} {dd : Nat} {es : List jE} {pc : Nat} {pl : jPL} {st : List Value} {Q : Option Value → jS → Prop} {len a b w z : Nat} {y : Int32 × Int64 × List (Int32 × Nat)} {o n0 : Nat} {R : jR} {h : jH} {p d : Nat} {q : Nat → Nat}
theorem jx_getr2 {r : Nat} (hf : jfe es pc = some (pc, .getfield z, len, (a, b, 2, w), y)) (hc : jcl n0 o = a) (he : R o b = r) (kk : jEx X dd es (pc + len) pl (.ref r :: st) (n0, R, h) Q) : jEx X dd es pc pl (.ref o :: st) (n0, R, h) Q := by
  subst he
  exact jx_getr hf hc kk
theorem jx_putp {v : Nat} (hf : jfe es pc = some (pc, .putfield z, len, (8, 4, 2, w), y)) (kk : jEx X dd es (pc + len) pl st (176, jRf v d q, h) Q) : jEx X dd es pc pl (.ref v :: .ref 79 :: st) (176, jRf p d q, h) Q :=
  jx_putr hf jko_79 (by rw [jRf_p]; exact kk)
theorem jx_putd {v : Nat} (hf : jfe es pc = some (pc, .putfield z, len, (1, 11, 2, w), y)) (kk : jEx X dd es (pc + len) pl st (176, jRf p v q, h) Q) : jEx X dd es pc pl (.ref v :: .ref 1 :: st) (176, jRf p d q, h) Q :=
  jx_putr hf jko_1 (by rw [jRf_d]; exact kk)
theorem jx_iald2 {i : Int32} {m : Nat} (hf : jfe es pc = some (pc, .iaload, len, (a, b, 0, w), y)) (hc : jcl n0 o = 20) (hm : (jsh o).2 = m) (hi : jin i m) (kk : jEx X dd es (pc + len) pl (.int (h.1 o i.toNatClampNeg) :: st) (n0, R, h) Q) : jEx X dd es pc pl (.int i :: .ref o :: st) (n0, R, h) Q := by
  subst hm
  exact jx_iald hf hc hi kk
theorem jx_lald2 {i : Int32} {m : Nat} (hf : jfe es pc = some (pc, .laload, len, (a, b, 0, w), y)) (hc : jcl n0 o = 21) (hm : (jsh o).2 = m) (hi : jin i m) (kk : jEx X dd es (pc + len) pl (.long (h.2 o i.toNatClampNeg) :: st) (n0, R, h) Q) : jEx X dd es pc pl (.int i :: .ref o :: st) (n0, R, h) Q := by
  subst hm
  exact jx_lald hf hc hi kk
theorem jx_cald2 {i : Int32} {m : Nat} (hf : jfe es pc = some (pc, .caload, len, (a, b, 0, w), y)) (hc : jcl n0 o = 22) (hm : (jsh o).2 = m) (hi : jin i m) (kk : jEx X dd es (pc + len) pl (.int (h.1 o i.toNatClampNeg) :: st) (n0, R, h) Q) : jEx X dd es pc pl (.int i :: .ref o :: st) (n0, R, h) Q := by
  subst hm
  exact jx_cald hf hc hi kk
theorem jx_aald2 {i : Int32} (hf : jfe es pc = some (pc, .aaload, len, (a, b, 0, w), y)) (hi : jin i 20) (kk : jEx X dd es (pc + len) pl (.ref (q i.toNatClampNeg) :: st) (176, jRf p d q, h) Q) : jEx X dd es pc pl (.int i :: .ref 18 :: st) (176, jRf p d q, h) Q :=
  jx_aald hf jko_18 (by rw [jno_18]; exact hi) kk
theorem jx_iast2 {i : Int32} {x : Int32} {m : Nat} (hf : jfe es pc = some (pc, .iastore, len, (a, b, 0, w), y)) (hc : jcl n0 o = 20) (hm : (jsh o).2 = m) (hi : jin i m) (kk : jEx X dd es (pc + len) pl st (n0, R, jhI h o i.toNatClampNeg x) Q) : jEx X dd es pc pl (.int x :: .int i :: .ref o :: st) (n0, R, h) Q := by
  subst hm
  exact jx_iast hf hc hi kk
theorem jx_last2 {i : Int32} {x : Int64} {m : Nat} (hf : jfe es pc = some (pc, .lastore, len, (a, b, 0, w), y)) (hc : jcl n0 o = 21) (hm : (jsh o).2 = m) (hi : jin i m) (kk : jEx X dd es (pc + len) pl st (n0, R, jhL h o i.toNatClampNeg x) Q) : jEx X dd es pc pl (.long x :: .int i :: .ref o :: st) (n0, R, h) Q := by
  subst hm
  exact jx_last hf hc hi kk
theorem jx_aast2 {i : Int32} {x : Nat} (hf : jfe es pc = some (pc, .aastore, len, (a, b, 0, w), y)) (hi : jin i 20) (hx : jcl 176 x = 6) (kk : jEx X dd es (pc + len) pl st (176, jRf p d (jqs q i.toNatClampNeg x), h) Q) : jEx X dd es pc pl (.ref x :: .int i :: .ref 18 :: st) (176, jRf p d q, h) Q :=
  jx_aast hf jko_18 (by rw [jno_18]; exact hi) ⟨jcl_le6 hx, hx⟩ (by rw [jRf_q]; exact kk)
theorem jx_alen2 {k : Nat} {m : Int32} (hf : jfe es pc = some (pc, .arraylength, len, (a, b, 0, w), y)) (hc : jcl n0 o = k) (hq : 20 ≤ k ∧ k ≤ 23) (hm : Int32.ofNat (jsh o).2 = m) (kk : jEx X dd es (pc + len) pl (.int m :: st) (n0, R, h) Q) : jEx X dd es pc pl (.ref o :: st) (n0, R, h) Q := by
  subst hm
  exact jx_alen hf hc hq kk
end JRV
