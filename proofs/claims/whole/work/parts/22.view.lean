/-! What both objects hold: the numbers D of a wedding and of how it stands; frames -/
abbrev jD : Type := Nat → Nat → Int
/-- nothing but the cells of S was written -/
def eFr (S : Nat → Nat → Prop) (h h' : jH) : Prop := (∀ o k, ¬ S o k → h'.1 o k = h.1 o k) ∧ (∀ o k, ¬ S o k → h'.2 o k = h.2 o k)
theorem eFr_refl (S : Nat → Nat → Prop) (h : jH) : eFr S h h := ⟨fun _ _ _ => rfl, fun _ _ _ => rfl⟩
theorem eFr_trans {S : Nat → Nat → Prop} {h h1 h2 : jH} (a : eFr S h h1) (b : eFr S h1 h2) : eFr S h h2 := ⟨fun o k n => (b.1 o k n).trans (a.1 o k n), fun o k n => (b.2 o k n).trans (a.2 o k n)⟩
theorem eFr_mono {S T : Nat → Nat → Prop} {h h1 : jH} (a : eFr S h h1) (hs : ∀ o k, S o k → T o k) : eFr T h h1 := ⟨fun o k n => a.1 o k (fun s => n (hs o k s)), fun o k n => a.2 o k (fun s => n (hs o k s))⟩
theorem eFr_I {S : Nat → Nat → Prop} {h h1 : jH} (a : eFr S h h1) {o k : Nat} (hs : S o k) (v : Int32) : eFr S h (jhI h1 o k v) := ⟨fun o' k' n => by
  show (if o' = o ∧ k' = k then v else h1.1 o' k') = h.1 o' k'
  rw [if_neg (by rintro ⟨rfl, rfl⟩; exact n hs)]
  exact a.1 o' k' n, fun o' k' n => a.2 o' k' n⟩
theorem eFr_L {S : Nat → Nat → Prop} {h h1 : jH} (a : eFr S h h1) {o k : Nat} (hs : S o k) (v : Int64) : eFr S h (jhL h1 o k v) := ⟨fun o' k' n => a.1 o' k' n, fun o' k' n => by
  show (if o' = o ∧ k' = k then v else h1.2 o' k') = h.2 o' k'
  rw [if_neg (by rintro ⟨rfl, rfl⟩; exact n hs)]
  exact a.2 o' k' n⟩
theorem jhI_1 (h : jH) (o k o' k' : Nat) (v : Int32) : (jhI h o k v).1 o' k' = if o' = o ∧ k' = k then v else h.1 o' k' := rfl
theorem jhI_2 (h : jH) (o k : Nat) (v : Int32) : (jhI h o k v).2 = h.2 := rfl
theorem jhL_2 (h : jH) (o k o' k' : Nat) (v : Int64) : (jhL h o k v).2 o' k' = if o' = o ∧ k' = k then v else h.2 o' k' := rfl
theorem jhL_1 (h : jH) (o k : Nat) (v : Int64) : (jhL h o k v).1 = h.1 := rfl
/-- the wedding as the class holds it, in plan p: g guests -/
def cV (p g : Nat) (D : jD) (h : jH) : Prop := h.1 p 0 = jz g ∧ (h.1 p 3 = jz (D 0 3) ∧ h.1 p 4 = jz (D 0 4) ∧ h.1 p 5 = jz (D 0 5) ∧ h.1 p 6 = jz (D 0 6)) ∧ (h.1 1 12 = jz (D 0 10) ∧ (D 0 10 = 1 → h.1 p 7 = jz (D 0 7) ∧ h.1 p 8 = jz (D 0 8) ∧ h.1 p 9 = jz (D 0 9))) ∧ (∀ k, k < g → h.1 (p + 2) k = jz (D 3 k) ∧ h.1 (p + 3) k = jz (D 4 k) ∧ h.1 (p + 4) k = jz (D 5 k) ∧ h.1 (p + 5) k = jz (D 6 k)) ∧ (∀ k, k < 8 → h.1 (p + 6) k = jz (D 7 k) ∧ h.1 (p + 7) k = jz (D 8 k) ∧ h.1 (p + 8) k = jz (D 9 k))
/-- how it stands, as the class holds it in o -/
def cS (o : Nat) (D : jD) (h : jH) : Prop := h.1 o 0 = jz (D 0 1) ∧ h.1 o 1 = jz (D 0 2) ∧ ∀ k, k < 8 → h.1 (o + 1) k = jz (D 1 k) ∧ h.1 (o + 2) k = jz (D 2 k)
/-- the same, as the reference holds them -/
def mV (g : Nat) (D : jD) (h : jH) : Prop := h.1 138 3 = jz g ∧ (h.1 140 4 = jz (D 0 3) ∧ h.1 140 5 = jz (D 0 4) ∧ h.1 140 6 = jz (D 0 5) ∧ h.1 140 7 = jz (D 0 6)) ∧ (h.1 110 48 = jz (D 0 10) ∧ (D 0 10 = 1 → h.1 144 3 = jz (D 0 7) ∧ h.1 144 4 = jz (D 0 8) ∧ h.1 144 5 = jz (D 0 9))) ∧ (∀ k, k < g → h.1 141 (32 + 4 * k) = jz (D 3 k) ∧ h.1 141 (33 + 4 * k) = jz (D 4 k) ∧ h.1 141 (34 + 4 * k) = jz (D 5 k) ∧ h.1 141 (35 + 4 * k) = jz (D 6 k)) ∧ (∀ k, k < 8 → h.1 142 (8 + k) = jz (D 7 k) ∧ h.1 143 (8 + k) = jz (D 8 k))
def mS (D : jD) (h : jH) : Prop := h.1 148 0 = jz (D 0 1) ∧ h.1 148 1 = jz (D 0 2) ∧ ∀ k, k < 8 → h.1 148 (2 + 2 * k) = jz (D 1 k) ∧ h.1 148 (2 + 2 * k + 1) = jz (D 2 k)
/-- what the numbers of a wedding keep to -/
def bV (g : Nat) (D : jD) : Prop := g ≤ 8 ∧ (0 ≤ D 0 3 ∧ D 0 3 ≤ 40 ∧ 0 ≤ D 0 4 ∧ D 0 4 ≤ 99 ∧ 0 ≤ D 0 5 ∧ D 0 5 ≤ 99 ∧ 0 ≤ D 0 6 ∧ D 0 6 ≤ 99 ∧ 0 ≤ D 0 7 ∧ D 0 7 ≤ 10 ∧ 0 ≤ D 0 8 ∧ D 0 8 ≤ 100 ∧ 0 ≤ D 0 9 ∧ D 0 9 ≤ 9) ∧ ((D 0 10 = 0 ∨ D 0 10 = 1) ∧ (D 0 10 = 0 → g = 0)) ∧ (∀ k, k < g → 0 ≤ D 3 k ∧ D 3 k ≤ 10 ∧ 0 ≤ D 4 k ∧ D 4 k ≤ 99 ∧ 1 ≤ D 5 k ∧ D 5 k ≤ 4 ∧ 0 ≤ D 6 k ∧ D 6 k ≤ 99) ∧ (∀ k, k < 8 → 0 ≤ D 7 k ∧ D 7 k < 2 ^ g ∧ 0 ≤ D 8 k ∧ D 8 k < 2 ^ g)
/-- what the numbers of how it stands keep to -/
def bS (g : Nat) (D : jD) : Prop := 0 ≤ D 0 1 ∧ D 0 1 ≤ 999 ∧ -1 ≤ D 0 2 ∧ D 0 2 ≤ D 0 1 ∧ ∀ k, k < 8 → 0 ≤ D 1 k ∧ D 1 k ≤ 4 ∧ 0 ≤ D 2 k ∧ D 2 k ≤ 999 ∧ (D 1 k = 0 → D 2 k = 0) ∧ (g ≤ k → D 1 k = 0)
/-! steps of a SUM or a TEST, over a stack -/
def jclip (v : Int) : Int := if v > 1000000 then 1000000 else if v < -1000000 then -1000000 else v
def jbool (b : Bool) : Int := if b then 1 else 0
def jjoin (s a b : Int) : Option Int :=
  if s = -11 then some (jclip (a + b)) else if s = -12 then some (jclip (a - b)) else if s = -13 then some (jclip (a * b))
  else if s = -14 then some (if b = 0 then 0 else a.fdiv b) else if s = -15 then some (if a < b then a else b) else if s = -16 then some (if b < a then a else b)
  else if s = -17 then some (jbool (decide (a < b))) else if s = -18 then some (jbool (decide (b < a))) else if s = -19 then some (jbool (decide (a = b)))
  else if s = -20 then (if (a = 0 ∨ a = 1) ∧ (b = 0 ∨ b = 1) then some (a * b) else none)
  else if s = -21 then (if (a = 0 ∨ a = 1) ∧ (b = 0 ∨ b = 1) then some (if a + b > 0 then 1 else 0) else none) else none
def jsstep (E : Nat → Int) (F : Int → Int) (s : Int) (st : List Int) : Option (List Int) :=
  if 0 ≤ s then (if st.length < 64 ∧ s ≤ 9999 then some (s :: st) else none)
  else if -7 ≤ s then (if st.length < 64 then some (E (-1 - s).toNat :: st) else none)
  else if s = -22 then (match st with
    | v :: r => if v = 0 ∨ v = 1 then some ((1 - v) :: r) else none
    | _ => none)
  else if s = -23 then (match st with
    | v :: r => some (F v :: r)
    | _ => none)
  else match st with
    | b :: a :: r => (jjoin s a b).map (fun v => v :: r)
    | _ => none
def jrun (E : Nat → Int) (F : Int → Int) : List Int → List Int → Option (List Int)
  | [], st => some st
  | s :: l, st => match jsstep E F s st with
    | some st' => jrun E F l st'
    | none => none
/-- facts and far sets of a guest keep to their bounds -/
def jEb (E : Nat → Int) (F : Int → Int) : Prop := (∀ k, 0 ≤ E k ∧ E k ≤ 1000) ∧ ∀ v, F v = 0 ∨ F v = 1
/-- the steps L tell a value, whatever the guest -/
def jwf (L : List Int) : Prop := ∀ E F, jEb E F → ∃ v, -1000000 ≤ v ∧ v ≤ 1000000 ∧ jrun E F L [] = some [v]
/-- the reference's code for a step of the class -/
def jcode (s : Int) : Int :=
  if 0 ≤ s then 1000 + s else if s = -1 then 44 else if s = -2 then 45 else if s = -3 then 46 else if s = -4 then 42 else if s = -5 then 41 else if s = -6 then 43 else if s = -7 then 40
  else if s = -23 then 60 else -10 - s
/-- the late SUM, on both sides -/
def jLt (p : Nat) (L : List Int) (h : jH) : Prop := L.length ≤ 1600 ∧ h.1 (p + 9) 2 = jz L.length ∧ (∀ j, j < L.length → h.1 (p + 10) j = jz (L.getD j 0)) ∧ (L = [] → h.1 145 1 = -1) ∧ (L ≠ [] → jwf L ∧ h.1 145 1 = 0 ∧ h.1 146 1 = jz L.length ∧ (∀ j, j < L.length → h.1 147 (1600 + j) = jz (jcode (L.getD j 0)) ∧ -17 < L.getD j 0 ∧ L.getD j 0 ≤ 9999 ∧ (L.getD j 0 < 0 → L.getD j 0 ≤ -4)))
/-- a name, as both hold it -/
def jNm (a : Int32) (b : Int64) : Prop := ∃ l : List Nat, l ≠ [] ∧ l.length ≤ 6 ∧ (∀ c ∈ l, 1 ≤ c ∧ c ≤ 26) ∧ a = jz ((l.foldr (fun c v => c + 32 * v) 0 : Nat) : Int) ∧ b = jw ((l.foldl (fun v c => 27 * v + c) 0 : Nat) : Int)
/-- the words of the reference -/
def jwtab : List (Nat × List Nat) := [(113, [115, 101, 97, 116, 115]), (114, [98, 101, 110, 99, 104]), (115, [112, 108, 97, 116, 101]), (116, [108, 97, 99, 107]), (117, [103, 117, 101, 115, 116]), (118, [99, 111, 109, 101, 115]), (119, [106, 111, 121]), (120, [119, 105, 116, 104]), (121, [115, 108, 105, 103, 104, 116]), (122, [112, 117, 108, 108, 115]), (123, [104, 101, 97, 114, 115]), (124, [108, 97, 116, 101]), (125, [109, 97, 121, 98, 101]), (126, [115, 111, 111, 110]), (127, [109, 111, 114, 101]), (128, [119, 101, 101, 107, 115]), (129, [115, 105, 122, 101]), (130, [110, 117, 109, 98, 101, 114]), (131, [104, 111, 119]), (132, [111, 114]), (133, [97, 110, 100]), (134, [110, 111, 116]), (135, [97, 108, 108]), (136, [109, 105, 110]), (137, [109, 97, 120]), (153, [102, 105, 114, 115, 116]), (154, [108, 97, 115, 116]), (155, [111, 102, 116, 101, 110]), (156, [116, 111, 116, 97, 108]), (157, [109, 111, 115, 116]), (158, [108, 101, 97, 115, 116]), (159, [110, 111, 116]), (160, [97, 110, 100]), (161, [111, 114]), (162, [97, 108, 108]), (163, [109, 105, 110]), (164, [109, 97, 120]), (165, [119, 101, 101, 107, 115]), (166, [115, 108, 105, 103, 104, 116]), (167, [106, 111, 121]), (168, [115, 105, 122, 101]), (169, [110, 117, 109, 98, 101, 114]), (170, [104, 111, 119]), (171, [99, 111, 109, 101, 115]), (172, [112, 117, 108, 108, 115])]
def eWd (h : jH) : Prop := ∀ x ∈ jwtab, ∀ k, k < x.2.length → h.1 x.1 k = jz (x.2.getD k 0)
/-- the tape -/
def jTp (n : Nat) (T : Nat → Nat) (h : jH) : Prop := n ≤ 1600 ∧ h.1 2 1 = jz n ∧ h.1 110 1 = jz n ∧ ∀ k, k < n → T k < 256 ∧ h.1 3 k = jz (T k) ∧ h.1 111 k = jz (T k)
/-- one of the earlier standings -/
def jRow (o b g : Nat) (h : jH) : Prop := ∃ D : jD, cS o D h ∧ bS g D ∧ h.1 152 b = jz (D 0 1) ∧ h.1 152 (b + 1) = jz (D 0 2) ∧ ∀ k, k < 8 → h.1 152 (b + 2 + 2 * k) = jz (D 1 k) ∧ h.1 152 (b + 2 + 2 * k + 1) = jz (D 2 k)
def jPast (q : Nat → Nat) (g : Nat) (h : jH) : Prop := ∃ c w : Nat, c ≤ 20 ∧ w < 20 ∧ h.1 17 1 = jz c ∧ h.1 110 56 = jz c ∧ h.1 110 57 = jz w ∧ ∀ i, i < c → jRow (q (c - 1 - i)) (18 * ((w + 20 - i) % 20)) g h
def jq0 (q : Nat → Nat) : Prop := (∀ i, i < 20 → 19 ≤ q i ∧ q i ≤ 76 ∧ (q i - 19) % 3 = 0) ∧ ∀ i j, i < 20 → j < 20 → q i = q j → i = j
/-- all whom any of a set pulls, he too -/
def jpl (P : Nat → Nat) (s : Nat) : Nat → Nat
  | 0 => s
  | n + 1 => if s.testBit n then jpl P s n ||| P n else jpl P s n
def jfarN (g : Nat) (P : Nat → Nat) (k : Nat) : Nat := Nat.rec (2 ^ k) (fun _ s => jpl P s g) 8
def iTape (h : jH) : Prop := ∃ n T, jTp n T h
def iFault (h : jH) : Prop := h.1 1 14 = h.1 110 7 ∧ h.1 1 15 = h.1 110 8
def iRef (h : jH) : Prop := ∀ k, k < 6 → h.1 97 k = h.1 112 k
def iSeed (h : jH) : Prop := ∃ s : Int, 0 ≤ s ∧ s < 2147483648 ∧ h.1 1 13 = jz s ∧ h.2 110 58 = jw s
def iPic (h : jH) : Prop := ∃ m : Nat, m ≤ 29 ∧ h.1 4 1 = jz m ∧ h.1 110 90 = jz m ∧ ∀ k, k < m → h.1 5 k = h.1 176 k
/-- the wedding on both sides -/
def iPlan (p g : Nat) (D : jD) (L : List Int) (h : jH) : Prop := bV g D ∧ cV p g D h ∧ mV g D h ∧ jLt p L h ∧ (∀ k, k < g → jNm (h.1 (p + 1) k) (h.2 139 (8 + k))) ∧ h.1 p 1 = h.1 138 4 ∧ (∀ k, k < 8 → D 9 k = if k < g then ((jfarN g (fun j => (D 7 j).toNat) k : Nat) : Int) else 0)
/-- how it stands, on both sides -/
def iStand (g : Nat) (S : jD) (h : jH) : Prop := bS g S ∧ cS 11 S h ∧ mS S h
def iWed (p : Nat) (q : Nat → Nat) (h : jH) : Prop := ∃ (g : Nat) (D S : jD) (L : List Int), iPlan p g D L h ∧ iStand g S h ∧ jPast q g h
def iPD (p d : Nat) : Prop := (p = 84 ∧ d = 98) ∨ (p = 98 ∧ d = 84)
/-- what both objects hold between two calls -/
def jInv (p d : Nat) (q : Nat → Nat) (h : jH) : Prop := iPD p d ∧ jq0 q ∧ eWd h ∧ iTape h ∧ iFault h ∧ iRef h ∧ iSeed h ∧ iPic h ∧ iWed p q h
/-- cells that no invariant speaks of -/
def jS0 (d o k : Nat) : Prop := (6 ≤ o ∧ o ≤ 10) ∨ (14 ≤ o ∧ o ≤ 16) ∨ (80 ≤ o ∧ o ≤ 83) ∨ o = 95 ∨ o = 109 ∨ o = 96 ∨ (d ≤ o ∧ o ≤ d + 11) ∨ (o = 110 ∧ ((2 ≤ k ∧ k ≤ 6) ∨ k = 35 ∨ k = 46 ∨ k = 47 ∨ k = 49 ∨ k = 53 ∨ k = 80 ∨ (82 ≤ k ∧ k ≤ 84) ∨ (86 ≤ k ∧ k ≤ 88))) ∨ (o = 138 ∧ k < 3) ∨ (o = 139 ∧ k < 8) ∨ (o = 140 ∧ k < 4) ∨ (o = 141 ∧ k < 32) ∨ (o = 142 ∧ k < 8) ∨ (o = 143 ∧ k < 8) ∨ (o = 144 ∧ k < 3) ∨ (o = 145 ∧ k = 0) ∨ (o = 146 ∧ k = 0) ∨ (o = 147 ∧ k < 1600) ∨ (149 ≤ o ∧ o ≤ 151) ∨ (173 ≤ o ∧ o ≤ 175)
theorem cV_fr {p g : Nat} {D : jD} {h h' : jH} (e : ∀ o k, (p ≤ o ∧ o ≤ p + 8) ∨ (o = 1 ∧ k = 12) → h'.1 o k = h.1 o k) (V : cV p g D h) : cV p g D h' := by
  unfold cV at *
  simp (disch := omega) only [e]
  exact V
theorem cS_fr {o : Nat} {D : jD} {h h' : jH} (e : ∀ o' k, (o ≤ o' ∧ o' ≤ o + 2) → h'.1 o' k = h.1 o' k) (V : cS o D h) : cS o D h' := by
  unfold cS at *
  simp (disch := omega) only [e]
  exact V
theorem mV_fr {g : Nat} {D : jD} {h h' : jH} (e : ∀ o k, (o = 138 ∧ 3 ≤ k) ∨ (o = 140 ∧ 4 ≤ k) ∨ (o = 110 ∧ k = 48) ∨ (o = 144 ∧ 3 ≤ k) ∨ (o = 141 ∧ 32 ≤ k) ∨ (o = 142 ∧ 8 ≤ k) ∨ (o = 143 ∧ 8 ≤ k) → h'.1 o k = h.1 o k) (V : mV g D h) : mV g D h' := by
  unfold mV at *
  simp (disch := omega) only [e]
  exact V
theorem mS_fr {D : jD} {h h' : jH} (e : ∀ k, h'.1 148 k = h.1 148 k) (V : mS D h) : mS D h' := by
  unfold mS at *
  simp only [e]
  exact V
theorem jLt_fr {p : Nat} {L : List Int} {h h' : jH} (e : ∀ o k, ((p + 9 ≤ o ∧ o ≤ p + 10) ∨ (o = 145 ∧ k = 1) ∨ (o = 146 ∧ k = 1) ∨ (o = 147 ∧ 1600 ≤ k)) → h'.1 o k = h.1 o k) (V : jLt p L h) : jLt p L h' := by
  unfold jLt at *
  simp (disch := omega) only [e]
  exact V
theorem jRow_fr {o b g : Nat} {h h' : jH} (e : ∀ o' k, (o ≤ o' ∧ o' ≤ o + 2) ∨ o' = 152 → h'.1 o' k = h.1 o' k) (V : jRow o b g h) : jRow o b g h' := by
  obtain ⟨D, v1, v2, v3⟩ := V
  refine ⟨D, cS_fr (fun o' k hk => e o' k (Or.inl hk)) v1, v2, ?_⟩
  simp (disch := omega) only [e]
  exact v3
theorem jPast_fr {q : Nat → Nat} {g : Nat} {h h' : jH} (hq : jq0 q) (e : ∀ o k, (19 ≤ o ∧ o ≤ 78) ∨ o = 152 ∨ (o = 17 ∧ k = 1) ∨ (o = 110 ∧ (k = 56 ∨ k = 57)) → h'.1 o k = h.1 o k) (V : jPast q g h) : jPast q g h' := by
  obtain ⟨c, w, v1, v2, v3, v4, v5, v6⟩ := V
  refine ⟨c, w, v1, v2, ?_, ?_, ?_, fun i hi => ?_⟩
  · rw [e _ _ (by omega)]; exact v3
  · rw [e _ _ (by omega)]; exact v4
  · rw [e _ _ (by omega)]; exact v5
  · have := hq.1 (c - 1 - i) (by omega)
    exact jRow_fr (fun o' k hk => e o' k (by omega)) (v6 i hi)
theorem eWd_obj {x : Nat × List Nat} (hx : x ∈ jwtab) : 113 ≤ x.1 ∧ x.1 ≤ 172 ∧ (x.1 ≤ 137 ∨ 153 ≤ x.1) := by
  have : jwtab.all (fun x => decide (113 ≤ x.1 ∧ x.1 ≤ 172 ∧ (x.1 ≤ 137 ∨ 153 ≤ x.1))) = true := by decide +kernel
  exact of_decide_eq_true (List.all_eq_true.mp this x hx)
theorem eWd_fr {h h' : jH} (e : ∀ o k, (113 ≤ o ∧ o ≤ 137) ∨ (153 ≤ o ∧ o ≤ 172) → h'.1 o k = h.1 o k) (V : eWd h) : eWd h' := by
  intro x hx k hk
  have := eWd_obj hx
  rw [e _ _ (by omega)]
  exact V x hx k hk
theorem jTp_fr {n : Nat} {T : Nat → Nat} {h h' : jH} (e : ∀ o k, (o = 2 ∨ o = 3 ∨ o = 111 ∨ (o = 110 ∧ k = 1)) → h'.1 o k = h.1 o k) (V : jTp n T h) : jTp n T h' := by
  unfold jTp at *
  simp (disch := omega) only [e]
  exact V
theorem iTape_fr {h h' : jH} (e : ∀ o k, (o = 2 ∨ o = 3 ∨ o = 111 ∨ (o = 110 ∧ k = 1)) → h'.1 o k = h.1 o k) (V : iTape h) : iTape h' := by
  obtain ⟨n, T, v⟩ := V
  exact ⟨n, T, jTp_fr e v⟩
theorem iFault_fr {h h' : jH} (e : ∀ o k, (o = 1 ∧ (k = 14 ∨ k = 15)) ∨ (o = 110 ∧ (k = 7 ∨ k = 8)) → h'.1 o k = h.1 o k) (V : iFault h) : iFault h' := by
  unfold iFault at *
  simp (disch := omega) only [e]
  exact V
theorem iRef_fr {h h' : jH} (e : ∀ o k, (o = 97 ∨ o = 112) → h'.1 o k = h.1 o k) (V : iRef h) : iRef h' := by
  unfold iRef at *
  simp (disch := omega) only [e]
  exact V
theorem iSeed_fr {h h' : jH} (e : h'.1 1 13 = h.1 1 13) (e2 : h'.2 110 58 = h.2 110 58) (V : iSeed h) : iSeed h' := by
  unfold iSeed at *
  rw [e, e2]
  exact V
theorem iPic_fr {h h' : jH} (e : ∀ o k, (o = 4 ∨ o = 5 ∨ o = 176 ∨ (o = 110 ∧ k = 90)) → h'.1 o k = h.1 o k) (V : iPic h) : iPic h' := by
  unfold iPic at *
  simp (disch := omega) only [e]
  exact V
theorem iPlan_fr {p g : Nat} {D : jD} {L : List Int} {h h' : jH} (e : ∀ o k, ((p ≤ o ∧ o ≤ p + 8) ∨ (o = 1 ∧ k = 12)) ∨ ((o = 138 ∧ 3 ≤ k) ∨ (o = 140 ∧ 4 ≤ k) ∨ (o = 110 ∧ k = 48) ∨ (o = 144 ∧ 3 ≤ k) ∨ (o = 141 ∧ 32 ≤ k) ∨ (o = 142 ∧ 8 ≤ k) ∨ (o = 143 ∧ 8 ≤ k)) ∨ ((p + 9 ≤ o ∧ o ≤ p + 10) ∨ (o = 145 ∧ k = 1) ∨ (o = 146 ∧ k = 1) ∨ (o = 147 ∧ 1600 ≤ k)) → h'.1 o k = h.1 o k) (e2 : ∀ k, 8 ≤ k → h'.2 139 k = h.2 139 k) (V : iPlan p g D L h) : iPlan p g D L h' := by
  obtain ⟨b1, w1, w3, w5, w6, w7, w8⟩ := V
  refine ⟨b1, cV_fr (fun o k hk => e o k (Or.inl hk)) w1, mV_fr (fun o k hk => e o k (Or.inr (Or.inl hk))) w3, jLt_fr (fun o k hk => e o k (Or.inr (Or.inr hk))) w5, ?_, ?_, w8⟩
  · intro k hk; rw [e _ _ (Or.inl (by omega)), e2 _ (by omega)]; exact w6 k hk
  · rw [e _ _ (Or.inl (by omega)), e _ _ (Or.inr (Or.inl (by omega)))]; exact w7
theorem iStand_fr {g : Nat} {S : jD} {h h' : jH} (e : ∀ o k, (11 ≤ o ∧ o ≤ 13) ∨ o = 148 → h'.1 o k = h.1 o k) (V : iStand g S h) : iStand g S h' :=
  ⟨V.1, cS_fr (fun o k hk => e o k (by omega)) V.2.1, mS_fr (fun k => e _ k (by omega)) V.2.2⟩
theorem iWed_fr {p : Nat} {q : Nat → Nat} {h h' : jH} (hq : jq0 q) (e : ∀ o k, (((p ≤ o ∧ o ≤ p + 8) ∨ (o = 1 ∧ k = 12)) ∨ ((o = 138 ∧ 3 ≤ k) ∨ (o = 140 ∧ 4 ≤ k) ∨ (o = 110 ∧ k = 48) ∨ (o = 144 ∧ 3 ≤ k) ∨ (o = 141 ∧ 32 ≤ k) ∨ (o = 142 ∧ 8 ≤ k) ∨ (o = 143 ∧ 8 ≤ k)) ∨ ((p + 9 ≤ o ∧ o ≤ p + 10) ∨ (o = 145 ∧ k = 1) ∨ (o = 146 ∧ k = 1) ∨ (o = 147 ∧ 1600 ≤ k))) ∨ ((11 ≤ o ∧ o ≤ 13) ∨ o = 148) ∨ ((19 ≤ o ∧ o ≤ 78) ∨ o = 152 ∨ (o = 17 ∧ k = 1) ∨ (o = 110 ∧ (k = 56 ∨ k = 57))) → h'.1 o k = h.1 o k) (e2 : ∀ k, 8 ≤ k → h'.2 139 k = h.2 139 k) (V : iWed p q h) : iWed p q h' := by
  obtain ⟨g, D, S, L, v1, v2, v3⟩ := V
  exact ⟨g, D, S, L, iPlan_fr (fun o k hk => e o k (Or.inl hk)) e2 v1, iStand_fr (fun o k hk => e o k (Or.inr (Or.inl hk))) v2, jPast_fr hq (fun o k hk => e o k (Or.inr (Or.inr hk))) v3⟩
theorem jInv_fr {p d : Nat} {q : Nat → Nat} {h h' : jH} (V : jInv p d q h) (a : eFr (jS0 d) h h') : jInv p d q h' := by
  obtain ⟨hpd, hq, v1, v2, v3, v4, v5, v6, v7⟩ := V
  have hpd' := hpd
  unfold iPD at hpd'
  have e : ∀ o k, ¬ jS0 d o k → h'.1 o k = h.1 o k := a.1
  have e2 : ∀ o k, ¬ jS0 d o k → h'.2 o k = h.2 o k := a.2
  exact ⟨hpd, hq, eWd_fr (fun o k hk => e o k (by unfold jS0; omega)) v1, iTape_fr (fun o k hk => e o k (by unfold jS0; omega)) v2, iFault_fr (fun o k hk => e o k (by unfold jS0; omega)) v3, iRef_fr (fun o k hk => e o k (by unfold jS0; omega)) v4, iSeed_fr (e _ _ (by unfold jS0; omega)) (e2 _ _ (by unfold jS0; omega)) v5, iPic_fr (fun o k hk => e o k (by unfold jS0; omega)) v6, iWed_fr hq (fun o k hk => e o k (by rcases hk with (hk | hk | hk) | hk | hk <;> (unfold jS0; omega))) (fun k hk => e2 _ _ (by unfold jS0; omega)) v7⟩
theorem jInv_ok {p d : Nat} {q : Nat → Nat} {h : jH} (V : jInv p d q h) : jOK p d q := by
  obtain ⟨hpd, hq, -⟩ := V
  refine ⟨?_, ?_, fun k hk => ?_⟩
  · rcases hpd with ⟨rfl, rfl⟩ | ⟨rfl, rfl⟩ <;> decide +kernel
  · rcases hpd with ⟨rfl, rfl⟩ | ⟨rfl, rfl⟩ <;> decide +kernel
  · have h1 := hq.1 k hk
    have h2 : (List.range 58).all (fun i => decide ((i % 3 = 0) → jcl 176 (19 + i) = 6)) = true := by decide +kernel
    have h3 := of_decide_eq_true (List.all_eq_true.mp h2 (q k - 19) (List.mem_range.mpr (by omega))) h1.2.2
    rw [show 19 + (q k - 19) = q k by omega] at h3
    exact h3
