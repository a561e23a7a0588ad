/-! What the printed functions stand on: loops, kinds of references -/
def jrfl : List (List Nat) := [[], [3, 3, 4, 5, 6, 7, 7, 8, 9, 12, 21, 11], [21], [3], [4], [21, 21], [0, 0, 21, 21], [24], [7, 10, 21, 21, 11], [22], [0, 0, 0, 0, 0, 0, 0, 0, 0, 0, 21, 21, 21, 21, 21, 21, 21, 21, 6], [9], [21, 0, 0, 0, 0, 0, 0, 0, 0, 21, 23, 23, 23, 23, 23, 23, 23, 23, 23, 23, 23, 23, 23, 23, 23, 23, 23, 23, 23, 23, 23, 23, 23, 23, 23, 0, 21, 22, 21, 21, 21, 21, 21, 21, 21, 21, 0, 0, 0, 0, 21, 21, 22, 0, 22, 21, 0, 0, 0, 23, 23, 23, 23, 23, 23, 23, 23, 23, 23, 23, 23, 23, 23, 23, 23, 23, 23, 23, 23, 21, 0, 21, 0, 0, 0, 22, 0, 0, 0, 21]]
/-- the kind of what reference field k of kind c holds, one more; 0: no reference -/
def jrf (c k : Nat) : Nat := if c = 23 then 7 else (jrfl.getD c []).getD k 0
/-- all references are of the kinds that they are told as -/
def jTy (R : jR) : Prop := ∀ o k c : Nat, jrf (jcl 176 o) k = c + 1 → jcl 176 (R o k) = c
theorem jtR {R : jR} {o a k c : Nat} (hT : jTy R) (ho : jcl 176 o = a) (hc : jrf a k = c + 1) : jcl 176 (R o k) = c := hT o k c (by rw [ho]; exact hc)
theorem jtR_up {R : jR} {o a k c v : Nat} (hT : jTy R) (ho : jcl 176 o = a) (hc : jrf a k = c + 1) (hv : jcl 176 v = c) : jTy (jup R o k v) := by
  intro o' k' c' h
  unfold jup
  split
  · next hq =>
    obtain ⟨rfl, rfl⟩ := hq
    rw [ho, hc] at h
    omega
  · exact hT o' k' c' h
theorem jword {i : Int32} (h : jin i 31) : jcl 176 (1000 + i.toNatClampNeg) = 13 := by
  have := h.2
  unfold jcl
  rw [if_neg (by omega), if_neg (by omega), if_pos (by omega)]
theorem jcl_le6 {v : Nat} (h : jcl 176 v = 6) : v ≤ 176 := by
  unfold jcl at h
  split at h
  · assumption
  · split at h
    · omega
    · split at h
      · omega
      · split at h
        · omega
        · split at h <;> omega
theorem jlt {a b : Nat} (h : Nat.ble (a + 1) b = true) : a < b := Nat.le_of_ble_eq_true h
theorem jle_nil : jle [] [] := trivial
theorem jle_n {a b : jPL} {y : Option Value} (h : jle a b) : jle (none :: a) (y :: b) := h
theorem jle_v {a b : jPL} {v : Value} (h : jle a b) : jle (some v :: a) (some v :: b) := ⟨rfl, h⟩
theorem jguard {α : Type} {c : Prop} {dec : Decidable c} {A : Option α} {z : α} (h : (if c then A else none) = some z) : c ∧ A = some z := by
  by_cases hc : c
  · rw [if_pos hc] at h; exact ⟨hc, h⟩
  · rw [if_neg hc] at h; cases h
/-- a loop: so many rounds at most -/
def jit {S E : Type} (step : S → Option (S ⊕ E)) : Nat → S → Option E
  | 0, _ => none
  | n + 1, s => match step s with
    | none => none
    | some (.inl s') => jit step n s'
    | some (.inr e) => some e
theorem jit_mono {S E : Type} {step : S → Option (S ⊕ E)} : ∀ {n : Nat} {s : S} {e : E}, jit step n s = some e → ∀ {k : Nat}, n ≤ k → jit step k s = some e := by
  intro n
  induction n with
  | zero => intro s e h; cases h
  | succ n ih =>
    intro s e h k hk
    cases k with
    | zero => omega
    | succ k =>
      unfold jit at h ⊢
      cases hs : step s with
      | none => rw [hs] at h; cases h
      | some z =>
        rw [hs] at h
        cases z with
        | inl s' => exact ih h (by omega)
        | inr e' => exact h

/-- a loop, to its end -/
noncomputable def jlim {S E : Type} (step : S → Option (S ⊕ E)) (s : S) : Option E := @dite (Option E) (∃ (n : Nat) (e : E), jit step n s = some e) (Classical.propDecidable _) (fun h => some (Classical.choose (Classical.choose_spec h))) (fun _ => none)
theorem jlim_iff {S E : Type} {step : S → Option (S ⊕ E)} {s : S} {e : E} : jlim step s = some e ↔ ∃ n, jit step n s = some e := by
  unfold jlim
  constructor
  · intro h
    split at h
    · next hq =>
      cases h
      exact ⟨_, Classical.choose_spec (Classical.choose_spec hq)⟩
    · cases h
  · rintro ⟨n, hn⟩
    have hq : ∃ (n : Nat) (e : E), jit step n s = some e := ⟨n, e, hn⟩
    rw [dif_pos hq]
    have h1 := jit_mono (Classical.choose_spec (Classical.choose_spec hq)) (Nat.le_max_left _ n)
    have h2 := jit_mono hn (Nat.le_max_right (Classical.choose hq) n)
    exact h1.symm.trans h2
theorem jlim_eq {S E : Type} (step : S → Option (S ⊕ E)) (s : S) : jlim step s = match step s with
    | none => none
    | some (.inl s') => jlim step s'
    | some (.inr e) => some e := by
  apply Option.ext
  intro e
  rw [jlim_iff]
  constructor
  · rintro ⟨n, hn⟩
    cases n with
    | zero => cases hn
    | succ n =>
      unfold jit at hn
      cases hs : step s with
      | none => rw [hs] at hn; cases hn
      | some z =>
        rw [hs] at hn
        cases z with
        | inl s' => exact jlim_iff.mpr ⟨n, hn⟩
        | inr e' => exact hn
  · intro h
    cases hs : step s with
    | none => rw [hs] at h; cases h
    | some z =>
      rw [hs] at h
      cases z with
      | inl s' =>
        obtain ⟨n, hn⟩ := jlim_iff.mp h
        refine ⟨n + 1, ?_⟩
        unfold jit
        rw [hs]
        exact hn
      | inr e' =>
        refine ⟨1, ?_⟩
        unfold jit
        rw [hs]
        exact h
theorem jlim_ok {S E : Type} {step : S → Option (S ⊕ E)} {G : S → Prop} {GX : E → Prop} (hs : ∀ s z, step s = some z → (∀ s', z = .inl s' → G s') → (∀ e, z = .inr e → GX e) → G s) {s : S} {x : E} (K : jlim step s = some x) (hx : GX x) : G s := by
  obtain ⟨n, hn⟩ := jlim_iff.mp K
  clear K
  induction n generalizing s with
  | zero => cases hn
  | succ n ih =>
    unfold jit at hn
    cases hz : step s with
    | none => rw [hz] at hn; cases hn
    | some z =>
      rw [hz] at hn
      refine hs s z hz (fun s' h => ?_) (fun e h => ?_)
      · subst h
        exact ih hn
      · subst h
        cases hn
        exact hx
