/-! A faster check of the code: links by numbers, each word compared once -/
abbrev jRc : Type := Nat × Nat × Nat × Nat × Nat × Int32 × Int64
def jOwn : List String := ["AndGuest", "AndGuest$Tape", "AndGuest$Reader", "AndGuest$PlanReader", "AndGuest$Formula", "AndGuest$Standing", "AndGuest$Past", "AndGuest$Party", "AndGuest$Crowd", "AndGuest$Plan", "AndGuest$Choices", "AndGuestModel", "AndGuest$Word", "java/lang/Math", "java/lang/Integer", "AndGuestLaw"]
def jown (k : Nat) : String := jOwn.getD k ""
def jwd (S : List jSg) (r : jRc) : Jvm.Cond := match r with
  | (k, ow, i, a, b, iv, lv) => match k with
    | 0 => .fieldLink (jown ow) i (jF (a - 1) b).1 (jF (a - 1) b).2.1 (jF (a - 1) b).2.2.1
    | 1 => .fieldLink (jown ow) i "AndGuest$Word" (if b = 0 then "code" else "own") (if b = 0 then "I" else "Z")
    | 2 => .fieldLink (jown ow) i "AndGuest$Word" (if a < 31 then jnm a else "WORDS") (if a < 31 then "LAndGuest$Word;" else "[LAndGuest$Word;")
    | 3 => .classLink (jown ow) i (jC (a - 1))
    | 4 => .classLink (jown ow) i "AndGuest$Standing"
    | 5 => .methodLink (jown ow) i (match S[a]? with | some y => y.1 | none => Lib.objectInit)
    | 6 => .methodLink (jown ow) i Lib.objectInit
    | 7 => .constant (jown ow) i iv
    | 8 => .constantLong (jown ow) i lv
    | 9 => (match S[a]? with | some y => .code y.1 y.2.1 y.2.2.1 y.2.2.2.1 | none => .initialized (jown ow))
    | 10 => .instanceMethod (match S[a]? with | some y => y.1 | none => Lib.objectInit)
    | 11 => (match S[a]? with | some y => .selects y.1.cls y.1 y.1 | none => .initialized (jown ow))
    | 12 => .static (match S[a]? with | some y => y.1 | none => Lib.objectInit)
    | _ => .initialized (jown ow)
theorem jwd_gd (S : List jSg) (r : jRc) : jgd (jwd S r) = true := by
  unfold jwd
  split
  split <;> first | rfl | (split <;> rfl)
def jsubm : List Nat → List Jvm.Cond → List Jvm.Cond → Bool
  | [], [], _ => true
  | g :: gs, x :: xs, ys => (match ys.drop g with
    | y :: zs => decide (y = x) && jsubm gs xs zs
    | [] => false)
  | _, _, _ => false
theorem jsubm_mem : ∀ {gs : List Nat} {xs ys : List Jvm.Cond}, jsubm gs xs ys = true → ∀ x ∈ xs, x ∈ ys := by
  intro gs
  induction gs with
  | nil =>
    intro xs ys h x hx
    cases xs with
    | nil => cases hx
    | cons a l => simp [jsubm] at h
  | cons g gs ih =>
    intro xs ys h x hx
    cases xs with
    | nil => cases hx
    | cons a l =>
      unfold jsubm at h
      split at h
      · next y zs hd =>
        simp only [Bool.and_eq_true, decide_eq_true_eq] at h
        have hsub : ∀ z ∈ y :: zs, z ∈ ys := fun z hz => by
          rw [← hd] at hz
          exact List.mem_of_mem_drop hz
        rcases List.mem_cons.mp hx with rfl | hx
        · rw [← h.1]; exact hsub y List.mem_cons_self
        · exact hsub x (List.mem_cons_of_mem _ (ih h.2 x hx))
      · cases h
def jrq (x y : jRc) : Bool := x.1 == y.1 && (x.2.1 == y.2.1 && (x.2.2.1 == y.2.2.1 && (x.2.2.2.1 == y.2.2.2.1 && (x.2.2.2.2.1 == y.2.2.2.2.1 && (decide (x.2.2.2.2.2.1 = y.2.2.2.2.2.1) && decide (x.2.2.2.2.2.2 = y.2.2.2.2.2.2))))))
theorem jrq_eq {x y : jRc} (h : jrq x y = true) : x = y := by
  obtain ⟨a, b, c, d, e, f, g⟩ := x
  obtain ⟨a', b', c', d', e', f', g'⟩ := y
  simp only [jrq, Bool.and_eq_true, beq_iff_eq, decide_eq_true_eq] at h
  obtain ⟨rfl, rfl, rfl, rfl, rfl, rfl, rfl⟩ := h
  rfl
def jrl : List jRc → List jRc → Bool
  | [], [] => true
  | x :: xs, y :: ys => jrq x y && jrl xs ys
  | _, _ => false
theorem jrl_eq : ∀ {xs ys : List jRc}, jrl xs ys = true → xs = ys := by
  intro xs
  induction xs with
  | nil => intro ys h; cases ys with
    | nil => rfl
    | cons _ _ => simp [jrl] at h
  | cons x xs ih => intro ys h; cases ys with
    | nil => simp [jrl] at h
    | cons y ys =>
      simp only [jrl, Bool.and_eq_true] at h
      rw [jrq_eq h.1, ih h.2]
def jLK (T : List (List jRc)) (w : Nat) (r : jRc) : Bool := match (T.getD (w / 40) [])[w % 40]? with
  | some x => jrq x r
  | none => false
theorem jLK_in {T : List (List jRc)} {S : List jSg} (hT : ∀ r ∈ T.flatten, jwd S r ∈ jtb) {w : Nat} {r : jRc} (h : jLK T w r = true) : jwd S r ∈ jtb := by
  refine hT r ?_
  unfold jLK at h
  split at h
  · next x hx =>
    obtain rfl := jrq_eq h
    rw [List.getD_eq_getElem?_getD] at hx
    cases hq : T[w / 40]? with
    | none => rw [hq] at hx; simp at hx
    | some l =>
      rw [hq] at hx
      exact List.mem_flatten.mpr ⟨l, List.mem_of_getElem? hq, List.mem_of_getElem? hx⟩
  · cases h
def jfI (T : List (List jRc)) (S : List jSg) (ow : Nat) (ini : Bool) (ret : Option FieldType) (e : jE) : Bool := match e with
  | (pc, ins, len, (a, b, c, w), (iv, lv, sw)) => match ins with
    | .ldc i => len == 2 && jLK T w (7, ow, i, 0, 0, iv, 0)
    | .ldc_w i => len == 3 && jLK T w (7, ow, i, 0, 0, iv, 0)
    | .ldc2_w i => len == 3 && jLK T w (8, ow, i, 0, 0, 0, lv)
    | .getfield i => len == 3 && ((decide (1 ≤ a ∧ a ≤ 12 ∧ b < jN (a - 1) ∧ c = jkd (a - 1) b) && jLK T w (0, ow, i, a, b, 0, 0)) || (decide (a = 13 ∧ c = 3 ∧ b ≤ 1) && jLK T w (1, ow, i, 0, b, 0, 0)))
    | .putfield i => len == 3 && ((decide (1 ≤ a ∧ a ≤ 12 ∧ b < jN (a - 1) ∧ c = jkd (a - 1) b) && jLK T w (0, ow, i, a, b, 0, 0)) && (!(jF (a - 1) b).2.2.2 || (ini && ow + 1 == a)))
    | .getstatic i => len == 3 && (decide (a ≤ 31) && jLK T w (2, ow, i, a, 0, 0, 0))
    | .new i => len == 3 && (decide (1 ≤ a ∧ a ≤ 12) && jLK T w (3, ow, i, a, 0, 0, 0))
    | .anewarray i => len == 3 && (a == 23 && jLK T w (3, ow, i, 6, 0, 0, 0))
    | .invokevirtual i => len == 3 && (decide (1 ≤ c ∧ c ≤ 12) && (match S[a]? with
        | some y => !y.2.2.2.2.2.1 && (y.2.2.2.2.1 == b && (y.2.2.2.2.2.2 == 2 * (c - 1) && jLK T w (5, ow, i, a, 0, 0, 0)))
        | none => false))
    | .invokespecial i => len == 3 && ((c == 99 && jLK T w (6, ow, i, 0, 0, 0, 0)) || (decide (1 ≤ c ∧ c ≤ 12) && (match S[a]? with
        | some y => !y.2.2.2.2.2.1 && (y.2.2.2.2.1 == b && (y.2.2.2.2.2.2 % 2 == 1 && (decide (y.2.2.2.1 = none) && jLK T w (5, ow, i, a, 0, 0, 0))))
        | none => false)))
    | .invokestatic i => len == 3 && (c == 0 && (match S[a]? with
        | some y => y.2.2.2.2.2.1 && (y.2.2.2.2.1 == b && jLK T w (5, ow, i, a, 0, 0, 0))
        | none => false))
    | _ => jokI S "" ini ret e
def jfE (T : List (List jRc)) (S : List jSg) (ow : Nat) (cc : ByteArray) (ini : Bool) (ret : Option FieldType) (e : jE) : Bool := decide (decode cc e.1 = .ok (e.2.1, e.2.2.1)) && jfI T S ow ini ret e
/-- what the numbers of a method's signature say is so -/
def jsgk (y : jSg) : Bool := decide (y.1.cls = jown (y.2.2.2.2.2.2 / 2)) && ((y.1.name == "<init>") == (y.2.2.2.2.2.2 % 2 == 1))
theorem jdecl_ok : (List.range 12).all (fun c => decide (jown c = jC c) && (List.range (jN c)).all (fun b => decide ((jF c b).1 = jC c))) = true := by decide +kernel
theorem jdecl {c : Nat} (h : c < 12) : jown c = jC c ∧ ∀ b, b < jN c → (jF c b).1 = jC c := by
  have := jall jdecl_ok h
  simp only [Bool.and_eq_true, decide_eq_true_eq] at this
  exact ⟨this.1, fun b hb => of_decide_eq_true (jall this.2 hb)⟩
theorem jW3_of {w : Nat} {x : Jvm.Cond} (h : x ∈ jtb) : jW3 w x = true := decide_eq_true h
theorem jfI_ok {T : List (List jRc)} {S : List jSg} {ow : Nat} {ini : Bool} {ret : Option FieldType} (hT : ∀ r ∈ T.flatten, jwd S r ∈ jtb) (hS : S.all jsgk = true) {e : jE} (h : jfI T S ow ini ret e = true) : jokI S (jown ow) ini ret e = true := by
  obtain ⟨pc, ins, len, ⟨a, b, c, w⟩, ⟨iv, lv, sw⟩⟩ := e
  have hsg : ∀ {y : jSg}, S[a]? = some y → y.1.cls = jown (y.2.2.2.2.2.2 / 2) ∧ ((y.1.name == "<init>") = (y.2.2.2.2.2.2 % 2 == 1)) := fun {y} hy => by
    have := List.all_eq_true.mp hS y (List.mem_of_getElem? hy)
    simp only [jsgk, Bool.and_eq_true, decide_eq_true_eq, beq_iff_eq] at this
    exact this
  cases ins with
  | ldc i =>
    simp only [jfI, Bool.and_eq_true] at h
    simp only [jokI, Bool.and_eq_true]
    exact ⟨h.1, jW3_of (jLK_in hT h.2)⟩
  | ldc_w i =>
    simp only [jfI, Bool.and_eq_true] at h
    simp only [jokI, Bool.and_eq_true]
    exact ⟨h.1, jW3_of (jLK_in hT h.2)⟩
  | ldc2_w i =>
    simp only [jfI, Bool.and_eq_true] at h
    simp only [jokI, Bool.and_eq_true]
    exact ⟨h.1, jW3_of (jLK_in hT h.2)⟩
  | getfield i =>
    simp only [jfI, Bool.and_eq_true, Bool.or_eq_true, decide_eq_true_eq] at h
    simp only [jokI, jokF, Bool.and_eq_true, Bool.or_eq_true, decide_eq_true_eq, beq_iff_eq]
    refine ⟨by simpa using h.1, ?_⟩
    rcases h.2 with ⟨h1, h2⟩ | ⟨⟨h1, h2, h3⟩, h4⟩
    · exact Or.inl ⟨h1, jW3_of (jLK_in hT h2)⟩
    · right
      refine ⟨⟨h1, h2⟩, ?_⟩
      have h5 := jLK_in hT h4
      rcases (show b = 0 ∨ b = 1 by omega) with rfl | rfl
      · exact Or.inl ⟨rfl, jW3_of h5⟩
      · exact Or.inr ⟨rfl, jW3_of h5⟩
  | putfield i =>
    simp only [jfI, Bool.and_eq_true, Bool.or_eq_true, decide_eq_true_eq, beq_iff_eq] at h
    simp only [jokI, jokF, Bool.and_eq_true, Bool.or_eq_true, decide_eq_true_eq, beq_iff_eq]
    obtain ⟨h0, ⟨h1, h2⟩, h3⟩ := h
    refine ⟨h0, ⟨h1, jW3_of (jLK_in hT h2)⟩, ?_⟩
    rcases h3 with h3 | ⟨h3, h4⟩
    · exact Or.inl h3
    · refine Or.inr ⟨h3, ?_⟩
      have hc : a - 1 < 12 := by omega
      rw [(jdecl hc).2 b h1.2.2.1, ← (jdecl hc).1]
      congr 1
      omega
  | getstatic i =>
    simp only [jfI, Bool.and_eq_true, decide_eq_true_eq, beq_iff_eq] at h
    simp only [jokI, Bool.and_eq_true, Bool.or_eq_true, decide_eq_true_eq, beq_iff_eq]
    refine ⟨h.1, ?_⟩
    have h5 := jLK_in hT h.2.2
    by_cases h31 : a < 31
    · simp only [jwd, if_pos h31] at h5
      exact Or.inl ⟨h31, jW3_of h5⟩
    · simp only [jwd, if_neg h31] at h5
      exact Or.inr ⟨by omega, jW3_of h5⟩
  | new i =>
    simp only [jfI, Bool.and_eq_true, decide_eq_true_eq, beq_iff_eq] at h
    simp only [jokI, Bool.and_eq_true, decide_eq_true_eq, beq_iff_eq]
    exact ⟨h.1, h.2.1, jW3_of (jLK_in hT h.2.2)⟩
  | anewarray i =>
    simp only [jfI, Bool.and_eq_true, beq_iff_eq] at h
    simp only [jokI, Bool.and_eq_true, beq_iff_eq]
    exact ⟨h.1, h.2.1, jW3_of (jLK_in hT h.2.2)⟩
  | invokevirtual i =>
    simp only [jfI, Bool.and_eq_true, decide_eq_true_eq, beq_iff_eq] at h
    simp only [jokI, Bool.and_eq_true, decide_eq_true_eq, beq_iff_eq]
    refine ⟨h.1, h.2.1, ?_⟩
    have h2 := h.2.2
    split at h2
    · next y hy =>
      simp only [Bool.and_eq_true, beq_iff_eq] at h2
      obtain ⟨g1, g2⟩ := hsg hy
      have h5 := jLK_in hT h2.2.2.2
      simp only [jwd, hy] at h5
      have hq : y.2.2.2.2.2.2 / 2 = c - 1 := by rw [h2.2.2.1]; omega
      have hq2 : y.2.2.2.2.2.2 % 2 = 0 := by rw [h2.2.2.1]; omega
      simp only [hy, Bool.and_eq_true, beq_iff_eq, decide_eq_true_eq]
      refine ⟨h2.1, h2.2.1, ?_, ?_, jW3_of h5⟩
      · rw [g1, hq, (jdecl (show c - 1 < 12 by omega)).1]
      · intro hn
        rw [hq2, hn] at g2
        simp at g2
    · cases h2
  | invokespecial i =>
    simp only [jfI, Bool.and_eq_true, Bool.or_eq_true, decide_eq_true_eq, beq_iff_eq] at h
    simp only [jokI, Bool.and_eq_true, Bool.or_eq_true, decide_eq_true_eq, beq_iff_eq]
    refine ⟨h.1, ?_⟩
    rcases h.2 with ⟨h1, h2⟩ | ⟨h1, h2⟩
    · exact Or.inl ⟨h1, jW3_of (jLK_in hT h2)⟩
    · refine Or.inr ⟨h1, ?_⟩
      split at h2
      · next y hy =>
        simp only [Bool.and_eq_true, beq_iff_eq, decide_eq_true_eq] at h2
        obtain ⟨g1, g2⟩ := hsg hy
        have h5 := jLK_in hT h2.2.2.2.2
        simp only [jwd, hy] at h5
        simp only [hy, Bool.and_eq_true, beq_iff_eq, decide_eq_true_eq]
        refine ⟨h2.1, h2.2.1, ?_, h2.2.2.2.1, jW3_of h5⟩
        rw [h2.2.2.1] at g2
        simpa using g2
      · cases h2
  | invokestatic i =>
    simp only [jfI, Bool.and_eq_true, beq_iff_eq] at h
    simp only [jokI, Bool.and_eq_true, beq_iff_eq]
    refine ⟨h.1, h.2.1, ?_⟩
    have h2 := h.2.2
    split at h2
    · next y hy =>
      simp only [Bool.and_eq_true, beq_iff_eq] at h2
      have h5 := jLK_in hT h2.2.2
      simp only [jwd, hy] at h5
      simp only [hy, Bool.and_eq_true, beq_iff_eq]
      exact ⟨h2.1, h2.2.1, jW3_of h5⟩
    · cases h2
  | _ => exact h
/-- a method, by numbers -/
def jfM (T : List (List jRc)) (S : List jSg) (mi : Nat) (q : Nat × Nat × Nat × Nat) (M : jM) : Bool :=
  plainFor M.1 && (decide (jown (M.2.2.2.2.1.2.2 / 2) = M.1.cls) && (jLK T q.1 (9, 0, 0, mi, 0, 0, 0) && (jLK T q.2.1 (13, M.2.2.2.2.1.2.2 / 2, 0, 0, 0, 0, 0) && ((if M.2.2.2.2.1.2.1 then jLK T q.2.2.1 (12, 0, 0, mi, 0, 0, 0) else jLK T q.2.2.1 (10, 0, 0, mi, 0, 0, 0) && (M.1.name == "<init>" || jLK T q.2.2.2 (11, 0, 0, mi, 0, 0, 0))) &&
  (decide (M.1.cls ≠ "java/lang/invoke/MethodHandle" ∧ M.1.cls ≠ "java/lang/invoke/VarHandle") && (decide ((parseMethodDescriptor M.1.desc).map (fun d => d.parameters.length) = some M.2.2.2.2.1.1) && (decide (M.2.2.1 ≤ 40) && M.2.2.2.2.2.all (jfE T S (M.2.2.2.2.1.2.2 / 2) M.2.1 (M.1.name == "<init>") M.2.2.2.1))))))))
theorem jfM_ok {T : List (List jRc)} {S : List jSg} {mi : Nat} {q : Nat × Nat × Nat × Nat} {M : jM} (hT : ∀ r ∈ T.flatten, jwd S r ∈ jtb) (hS : S.all jsgk = true) (hm : S[mi]? = some (jsig M)) (h : jfM T S mi q M = true) : jMok S M := by
  simp only [jfM, Bool.and_eq_true, decide_eq_true_eq] at h
  obtain ⟨h1, h2, h3, h4, h5, h6, h7, h8, h9⟩ := h
  refine ⟨q, ?_⟩
  simp only [jokM, Bool.and_eq_true, decide_eq_true_eq]
  have k3 := jLK_in hT h3
  have k4 := jLK_in hT h4
  simp only [jwd, hm] at k3
  simp only [jwd, h2] at k4
  refine ⟨h1, jW3_of k3, jW3_of k4, ?_, h6, h7, h8, ?_⟩
  · split
    · next hs =>
      rw [if_pos hs] at h5
      have k5 := jLK_in hT h5
      simp only [jwd, hm] at k5
      exact jW3_of k5
    · next hs =>
      rw [if_neg hs] at h5
      simp only [Bool.and_eq_true, Bool.or_eq_true] at h5 ⊢
      have k5 := jLK_in hT h5.1
      simp only [jwd, hm] at k5
      refine ⟨jW3_of k5, ?_⟩
      rcases h5.2 with g | g
      · exact Or.inl g
      · have k6 := jLK_in hT g
        simp only [jwd, hm] at k6
        exact Or.inr (jW3_of k6)
  · refine List.all_eq_true.mpr fun e he => ?_
    have := List.all_eq_true.mp h9 e he
    simp only [jfE, Bool.and_eq_true] at this
    simp only [jokE, Bool.and_eq_true]
    refine ⟨this.1, ?_⟩
    rw [← h2]
    exact jfI_ok hT hS this.2
def jck (T : List (List jRc)) (S : List jSg) : Nat → List jM → List (Nat × Nat × Nat × Nat) → Bool
  | _, [], [] => true
  | off, M :: l, q :: qs => jfM T S off q M && jck T S (off + 1) l qs
  | _, _, _ => false
theorem jck_app {T : List (List jRc)} {S : List jSg} {l2 : List jM} {q2 : List (Nat × Nat × Nat × Nat)} : ∀ {l1 : List jM} {q1 : List (Nat × Nat × Nat × Nat)} {off : Nat}, jck T S off l1 q1 = true → jck T S (off + l1.length) l2 q2 = true → jck T S off (l1 ++ l2) (q1 ++ q2) = true := by
  intro l1
  induction l1 with
  | nil =>
    intro q1 off h1 h2
    cases q1 with
    | nil => exact h2
    | cons _ _ => simp [jck] at h1
  | cons M l1 ih =>
    intro q1 off h1 h2
    cases q1 with
    | nil => simp [jck] at h1
    | cons q qs =>
      simp only [jck, Bool.and_eq_true] at h1
      simp only [List.cons_append, jck, Bool.and_eq_true]
      refine ⟨h1.1, ih h1.2 ?_⟩
      rw [List.length_cons] at h2
      rw [show off + 1 + l1.length = off + (l1.length + 1) by omega]
      exact h2
theorem jck_ok {T : List (List jRc)} {S : List jSg} (hT : ∀ r ∈ T.flatten, jwd S r ∈ jtb) (hS : S.all jsgk = true) : ∀ {l : List jM} {qs : List (Nat × Nat × Nat × Nat)} {off : Nat}, jck T S off l qs = true → (∀ j M, l[j]? = some M → S[off + j]? = some (jsig M)) → ∀ M ∈ l, jMok S M := by
  intro l
  induction l with
  | nil => intro _ _ _ _ M hM; cases hM
  | cons x l ih =>
    intro qs off h hidx M hM
    cases qs with
    | nil => simp [jck] at h
    | cons q qs =>
      simp only [jck, Bool.and_eq_true] at h
      rcases List.mem_cons.mp hM with rfl | hM
      · exact jfM_ok hT hS (hidx 0 M rfl) h.1
      · refine ih h.2 (fun j N hN => ?_) M hM
        rw [show off + 1 + j = off + (j + 1) by omega]
        exact hidx (j + 1) N hN
theorem jfM_big {T : List (List jRc)} {S : List jSg} {mi : Nat} {q : Nat × Nat × Nat × Nat} {nm : MethodName} {bs : ByteArray} {ml : Nat} {rt : Option FieldType} {x : Nat × Bool × Nat} {es : List jE} (h : jfM T S mi q (nm, bs, ml, rt, x, []) = true) (he : es.all (jfE T S (x.2.2 / 2) bs (nm.name == "<init>") rt) = true) : jfM T S mi q (nm, bs, ml, rt, x, es) = true := by
  simp only [jfM, Bool.and_eq_true] at h ⊢
  obtain ⟨h1, h2, h3, h4, h5, h6, h7, h8, -⟩ := h
  exact ⟨h1, h2, h3, h4, h5, h6, h7, h8, he⟩
theorem jall_app {l1 l2 : List jE} {f : jE → Bool} (h1 : l1.all f = true) (h2 : l2.all f = true) : (l1 ++ l2).all f = true := by
  rw [List.all_append, h1, h2]; rfl
theorem jck_one {T : List (List jRc)} {S : List jSg} {off : Nat} {M : jM} {q : Nat × Nat × Nat × Nat} (h : jfM T S off q M = true) : jck T S off [M] [q] = true := by
  simp only [jck, Bool.and_true, h]
/-! The words of the records are words of the tables -/
theorem js_0 {w : Jvm.Cond} (h : w ∈ k2_sels lw_privs) : w ∈ lw_tbl := List.mem_append_left _ h
theorem js_1 {w : Jvm.Cond} (h : w ∈ tables_1_1) : w ∈ lw_tbl := List.mem_append_right _ (List.mem_append_left _ h)
theorem js_2 {w : Jvm.Cond} (h : w ∈ tables_1_2) : w ∈ lw_tbl := List.mem_append_right _ (List.mem_append_right _ (List.mem_append_left _ h))
theorem js_3 {w : Jvm.Cond} (h : w ∈ tables_1_3) : w ∈ lw_tbl := List.mem_append_right _ (List.mem_append_right _ (List.mem_append_right _ (List.mem_append_left _ h)))
theorem js_4 {w : Jvm.Cond} (h : w ∈ tables_1_4) : w ∈ lw_tbl := List.mem_append_right _ (List.mem_append_right _ (List.mem_append_right _ (List.mem_append_right _ (List.mem_append_left _ h))))
theorem js_5 {w : Jvm.Cond} (h : w ∈ tables_1_5) : w ∈ lw_tbl := List.mem_append_right _ (List.mem_append_right _ (List.mem_append_right _ (List.mem_append_right _ (List.mem_append_right _ (List.mem_append_left _ h)))))
theorem js_6 {w : Jvm.Cond} (h : w ∈ tables_1_6) : w ∈ lw_tbl := List.mem_append_right _ (List.mem_append_right _ (List.mem_append_right _ (List.mem_append_right _ (List.mem_append_right _ (List.mem_append_right _ (List.mem_append_left _ h))))))
theorem js_7 {w : Jvm.Cond} (h : w ∈ tables_1_7) : w ∈ lw_tbl := List.mem_append_right _ (List.mem_append_right _ (List.mem_append_right _ (List.mem_append_right _ (List.mem_append_right _ (List.mem_append_right _ (List.mem_append_right _ (List.mem_append_left _ h)))))))
theorem js_8 {w : Jvm.Cond} (h : w ∈ tables_1_8) : w ∈ lw_tbl := List.mem_append_right _ (List.mem_append_right _ (List.mem_append_right _ (List.mem_append_right _ (List.mem_append_right _ (List.mem_append_right _ (List.mem_append_right _ (List.mem_append_right _ (List.mem_append_left _ h))))))))
theorem js_9 {w : Jvm.Cond} (h : w ∈ tables_1_9) : w ∈ lw_tbl := List.mem_append_right _ (List.mem_append_right _ (List.mem_append_right _ (List.mem_append_right _ (List.mem_append_right _ (List.mem_append_right _ (List.mem_append_right _ (List.mem_append_right _ (List.mem_append_right _ (h)))))))))
def jT_0 : List jRc := [(11, 0, 0, 15, 0, 0, 0), (11, 0, 0, 33, 0, 0, 0), (11, 0, 0, 42, 0, 0, 0), (11, 0, 0, 43, 0, 0, 0), (11, 0, 0, 49, 0, 0, 0), (11, 0, 0, 50, 0, 0, 0), (11, 0, 0, 53, 0, 0, 0), (11, 0, 0, 55, 0, 0, 0), (11, 0, 0, 56, 0, 0, 0), (11, 0, 0, 58, 0, 0, 0), (11, 0, 0, 61, 0, 0, 0), (11, 0, 0, 62, 0, 0, 0), (11, 0, 0, 65, 0, 0, 0), (11, 0, 0, 81, 0, 0, 0), (11, 0, 0, 88, 0, 0, 0), (11, 0, 0, 89, 0, 0, 0), (11, 0, 0, 98, 0, 0, 0), (11, 0, 0, 113, 0, 0, 0), (11, 0, 0, 144, 0, 0, 0), (11, 0, 0, 150, 0, 0, 0), (11, 0, 0, 155, 0, 0, 0), (11, 0, 0, 160, 0, 0, 0), (11, 0, 0, 162, 0, 0, 0), (11, 0, 0, 163, 0, 0, 0), (11, 0, 0, 170, 0, 0, 0), (11, 0, 0, 171, 0, 0, 0), (11, 0, 0, 172, 0, 0, 0), (11, 0, 0, 175, 0, 0, 0), (11, 0, 0, 177, 0, 0, 0), (11, 0, 0, 185, 0, 0, 0), (11, 0, 0, 190, 0, 0, 0), (11, 0, 0, 191, 0, 0, 0), (11, 0, 0, 192, 0, 0, 0), (11, 0, 0, 193, 0, 0, 0), (11, 0, 0, 194, 0, 0, 0), (11, 0, 0, 196, 0, 0, 0), (11, 0, 0, 197, 0, 0, 0), (11, 0, 0, 200, 0, 0, 0), (11, 0, 0, 201, 0, 0, 0), (11, 0, 0, 202, 0, 0, 0)]
def jT_1 : List jRc := [(11, 0, 0, 203, 0, 0, 0), (11, 0, 0, 204, 0, 0, 0), (11, 0, 0, 205, 0, 0, 0), (11, 0, 0, 206, 0, 0, 0), (11, 0, 0, 207, 0, 0, 0), (11, 0, 0, 208, 0, 0, 0), (11, 0, 0, 209, 0, 0, 0), (11, 0, 0, 210, 0, 0, 0), (11, 0, 0, 211, 0, 0, 0), (11, 0, 0, 212, 0, 0, 0), (11, 0, 0, 213, 0, 0, 0), (11, 0, 0, 214, 0, 0, 0), (11, 0, 0, 215, 0, 0, 0), (11, 0, 0, 216, 0, 0, 0), (11, 0, 0, 217, 0, 0, 0), (11, 0, 0, 218, 0, 0, 0), (11, 0, 0, 219, 0, 0, 0), (11, 0, 0, 220, 0, 0, 0), (11, 0, 0, 221, 0, 0, 0), (11, 0, 0, 222, 0, 0, 0), (11, 0, 0, 223, 0, 0, 0), (11, 0, 0, 225, 0, 0, 0), (11, 0, 0, 226, 0, 0, 0), (11, 0, 0, 227, 0, 0, 0), (11, 0, 0, 231, 0, 0, 0), (11, 0, 0, 232, 0, 0, 0), (11, 0, 0, 233, 0, 0, 0), (11, 0, 0, 234, 0, 0, 0), (11, 0, 0, 236, 0, 0, 0), (11, 0, 0, 237, 0, 0, 0), (11, 0, 0, 238, 0, 0, 0), (11, 0, 0, 240, 0, 0, 0), (11, 0, 0, 242, 0, 0, 0), (11, 0, 0, 243, 0, 0, 0), (11, 0, 0, 244, 0, 0, 0), (11, 0, 0, 245, 0, 0, 0), (11, 0, 0, 246, 0, 0, 0), (11, 0, 0, 247, 0, 0, 0), (11, 0, 0, 248, 0, 0, 0), (11, 0, 0, 249, 0, 0, 0)]
def jT_2 : List jRc := [(11, 0, 0, 250, 0, 0, 0), (11, 0, 0, 254, 0, 0, 0), (11, 0, 0, 256, 0, 0, 0), (11, 0, 0, 260, 0, 0, 0), (11, 0, 0, 262, 0, 0, 0), (11, 0, 0, 263, 0, 0, 0), (11, 0, 0, 264, 0, 0, 0), (11, 0, 0, 267, 0, 0, 0), (11, 0, 0, 268, 0, 0, 0), (11, 0, 0, 269, 0, 0, 0), (11, 0, 0, 270, 0, 0, 0), (11, 0, 0, 271, 0, 0, 0), (11, 0, 0, 272, 0, 0, 0), (11, 0, 0, 273, 0, 0, 0), (11, 0, 0, 276, 0, 0, 0), (11, 0, 0, 278, 0, 0, 0), (11, 0, 0, 279, 0, 0, 0), (11, 0, 0, 280, 0, 0, 0), (11, 0, 0, 283, 0, 0, 0), (11, 0, 0, 285, 0, 0, 0), (11, 0, 0, 287, 0, 0, 0), (11, 0, 0, 289, 0, 0, 0), (11, 0, 0, 291, 0, 0, 0), (11, 0, 0, 295, 0, 0, 0), (11, 0, 0, 298, 0, 0, 0), (11, 0, 0, 301, 0, 0, 0), (11, 0, 0, 303, 0, 0, 0), (11, 0, 0, 304, 0, 0, 0), (11, 0, 0, 305, 0, 0, 0), (11, 0, 0, 306, 0, 0, 0), (11, 0, 0, 307, 0, 0, 0), (11, 0, 0, 308, 0, 0, 0), (11, 0, 0, 309, 0, 0, 0), (11, 0, 0, 310, 0, 0, 0), (11, 0, 0, 311, 0, 0, 0), (11, 0, 0, 313, 0, 0, 0), (11, 0, 0, 314, 0, 0, 0), (11, 0, 0, 318, 0, 0, 0), (11, 0, 0, 319, 0, 0, 0), (11, 0, 0, 320, 0, 0, 0)]
def jT_3 : List jRc := [(13, 0, 0, 0, 0, 0, 0), (13, 1, 0, 0, 0, 0, 0), (13, 13, 0, 0, 0, 0, 0), (13, 5, 0, 0, 0, 0, 0), (13, 2, 0, 0, 0, 0, 0), (13, 3, 0, 0, 0, 0, 0), (13, 4, 0, 0, 0, 0, 0), (13, 6, 0, 0, 0, 0, 0), (13, 7, 0, 0, 0, 0, 0), (13, 8, 0, 0, 0, 0, 0), (13, 9, 0, 0, 0, 0, 0), (13, 10, 0, 0, 0, 0, 0), (13, 11, 0, 0, 0, 0, 0), (13, 12, 0, 0, 0, 0, 0), (13, 14, 0, 0, 0, 0, 0), (3, 15, 7, 1, 0, 0, 0), (5, 15, 9, 0, 0, 0, 0), (10, 0, 0, 0, 0, 0, 0), (9, 0, 0, 0, 0, 0, 0), (6, 0, 1, 0, 0, 0, 0), (3, 0, 7, 2, 0, 0, 0), (5, 0, 11, 1, 0, 0, 0), (10, 0, 0, 1, 0, 0, 0), (9, 0, 0, 1, 0, 0, 0), (6, 1, 3, 0, 0, 0, 0), (5, 1, 9, 2, 0, 0, 0), (12, 0, 0, 2, 0, 0, 0), (9, 0, 0, 2, 0, 0, 0), (0, 1, 15, 2, 0, 0, 0), (0, 1, 21, 2, 1, 0, 0), (5, 0, 18, 3, 0, 0, 0), (12, 0, 0, 3, 0, 0, 0), (9, 0, 0, 3, 0, 0, 0), (3, 0, 27, 3, 0, 0, 0), (5, 0, 29, 4, 0, 0, 0), (10, 0, 0, 4, 0, 0, 0), (9, 0, 0, 4, 0, 0, 0), (6, 2, 3, 0, 0, 0, 0), (0, 2, 9, 3, 0, 0, 0), (0, 2, 31, 3, 1, 0, 0)]
def jT_4 : List jRc := [(0, 2, 22, 3, 2, 0, 0), (0, 2, 15, 3, 3, 0, 0), (0, 2, 38, 3, 4, 0, 0), (0, 2, 25, 3, 5, 0, 0), (0, 2, 19, 3, 6, 0, 0), (3, 0, 36, 4, 0, 0, 0), (5, 0, 38, 5, 0, 0, 0), (10, 0, 0, 5, 0, 0, 0), (9, 0, 0, 5, 0, 0, 0), (6, 3, 3, 0, 0, 0, 0), (0, 3, 9, 4, 0, 0, 0), (3, 0, 45, 5, 0, 0, 0), (5, 0, 47, 6, 0, 0, 0), (10, 0, 0, 6, 0, 0, 0), (9, 0, 0, 6, 0, 0, 0), (6, 4, 3, 0, 0, 0, 0), (0, 4, 9, 5, 0, 0, 0), (0, 4, 15, 5, 1, 0, 0), (0, 4, 18, 5, 2, 0, 0), (0, 4, 22, 5, 3, 0, 0), (3, 0, 19, 6, 0, 0, 0), (5, 0, 52, 7, 0, 0, 0), (10, 0, 0, 7, 0, 0, 0), (9, 0, 0, 7, 0, 0, 0), (6, 5, 3, 0, 0, 0, 0), (0, 5, 18, 6, 0, 0, 0), (0, 0, 151, 6, 0, 0, 0), (0, 5, 22, 6, 1, 0, 0), (0, 5, 9, 6, 2, 0, 0), (0, 7, 38, 6, 2, 0, 0), (0, 0, 194, 6, 2, 0, 0), (0, 10, 93, 6, 2, 0, 0), (0, 5, 15, 6, 3, 0, 0), (0, 0, 206, 6, 3, 0, 0), (0, 7, 93, 6, 3, 0, 0), (3, 0, 60, 7, 0, 0, 0), (5, 0, 62, 8, 0, 0, 0), (10, 0, 0, 8, 0, 0, 0), (9, 0, 0, 8, 0, 0, 0), (6, 6, 1, 0, 0, 0, 0)]
def jT_5 : List jRc := [(3, 6, 9, 6, 0, 0, 0), (5, 6, 15, 7, 0, 0, 0), (0, 6, 11, 7, 0, 0, 0), (0, 6, 16, 7, 1, 0, 0), (3, 0, 67, 8, 0, 0, 0), (5, 0, 69, 9, 0, 0, 0), (10, 0, 0, 9, 0, 0, 0), (9, 0, 0, 9, 0, 0, 0), (6, 7, 3, 0, 0, 0, 0), (3, 7, 15, 9, 0, 0, 0), (5, 7, 17, 10, 0, 0, 0), (10, 0, 0, 10, 0, 0, 0), (9, 0, 0, 10, 0, 0, 0), (6, 8, 5, 0, 0, 0, 0), (0, 8, 11, 9, 0, 0, 0), (0, 8, 17, 9, 1, 0, 0), (3, 7, 31, 10, 0, 0, 0), (5, 7, 33, 11, 0, 0, 0), (10, 0, 0, 11, 0, 0, 0), (9, 0, 0, 11, 0, 0, 0), (6, 9, 3, 0, 0, 0, 0), (3, 9, 36, 5, 0, 0, 0), (5, 9, 38, 6, 0, 0, 0), (0, 9, 43, 10, 0, 0, 0), (0, 3, 150, 10, 0, 0, 0), (0, 7, 50, 10, 0, 0, 0), (0, 0, 142, 10, 0, 0, 0), (0, 10, 90, 10, 0, 0, 0), (0, 9, 47, 10, 1, 0, 0), (0, 3, 100, 10, 1, 0, 0), (0, 0, 145, 10, 1, 0, 0), (0, 9, 50, 10, 2, 0, 0), (0, 3, 113, 10, 2, 0, 0), (0, 3, 61, 10, 3, 0, 0), (0, 0, 148, 10, 3, 0, 0), (0, 10, 76, 10, 3, 0, 0), (0, 7, 129, 10, 3, 0, 0), (0, 3, 68, 10, 4, 0, 0), (0, 7, 126, 10, 4, 0, 0), (0, 3, 74, 10, 5, 0, 0)]
def jT_6 : List jRc := [(0, 10, 109, 10, 5, 0, 0), (0, 0, 271, 10, 5, 0, 0), (0, 3, 80, 10, 6, 0, 0), (0, 10, 112, 10, 6, 0, 0), (0, 0, 274, 10, 6, 0, 0), (0, 9, 53, 10, 7, 0, 0), (0, 3, 135, 10, 7, 0, 0), (0, 7, 46, 10, 7, 0, 0), (0, 9, 56, 10, 8, 0, 0), (0, 3, 141, 10, 8, 0, 0), (0, 0, 225, 10, 8, 0, 0), (0, 9, 59, 10, 9, 0, 0), (0, 3, 147, 10, 9, 0, 0), (0, 7, 144, 10, 9, 0, 0), (0, 9, 9, 10, 10, 0, 0), (0, 3, 157, 10, 10, 0, 0), (0, 0, 175, 10, 10, 0, 0), (0, 9, 15, 10, 11, 0, 0), (0, 7, 43, 10, 11, 0, 0), (0, 3, 173, 10, 11, 0, 0), (0, 0, 182, 10, 11, 0, 0), (0, 9, 18, 10, 12, 0, 0), (0, 3, 179, 10, 12, 0, 0), (0, 0, 185, 10, 12, 0, 0), (0, 10, 83, 10, 12, 0, 0), (0, 7, 116, 10, 12, 0, 0), (0, 9, 21, 10, 13, 0, 0), (0, 3, 185, 10, 13, 0, 0), (0, 7, 57, 10, 13, 0, 0), (0, 0, 188, 10, 13, 0, 0), (0, 10, 68, 10, 13, 0, 0), (0, 9, 24, 10, 14, 0, 0), (0, 3, 191, 10, 14, 0, 0), (0, 0, 191, 10, 14, 0, 0), (0, 7, 167, 10, 14, 0, 0), (0, 9, 27, 10, 15, 0, 0), (0, 3, 96, 10, 15, 0, 0), (0, 9, 30, 10, 16, 0, 0), (0, 3, 110, 10, 16, 0, 0), (0, 9, 33, 10, 17, 0, 0)]
def jT_7 : List jRc := [(0, 0, 209, 10, 17, 0, 0), (0, 7, 154, 10, 17, 0, 0), (0, 9, 39, 10, 18, 0, 0), (0, 3, 119, 10, 18, 0, 0), (0, 7, 99, 10, 18, 0, 0), (0, 7, 9, 8, 0, 0, 0), (0, 7, 18, 8, 1, 0, 0), (0, 7, 24, 8, 2, 0, 0), (0, 7, 28, 8, 3, 0, 0), (0, 7, 34, 8, 4, 0, 0), (3, 0, 76, 11, 0, 0, 0), (5, 0, 78, 12, 0, 0, 0), (10, 0, 0, 12, 0, 0, 0), (9, 0, 0, 12, 0, 0, 0), (6, 10, 3, 0, 0, 0, 0), (0, 10, 9, 11, 0, 0, 0), (0, 10, 15, 11, 1, 0, 0), (0, 10, 19, 11, 2, 0, 0), (0, 10, 23, 11, 3, 0, 0), (0, 10, 26, 11, 4, 0, 0), (0, 10, 29, 11, 5, 0, 0), (3, 0, 89, 10, 0, 0, 0), (5, 0, 91, 11, 0, 0, 0), (0, 0, 14, 1, 0, 0, 0), (0, 0, 24, 1, 1, 0, 0), (0, 0, 32, 1, 2, 0, 0), (0, 0, 41, 1, 3, 0, 0), (0, 0, 48, 1, 4, 0, 0), (0, 0, 53, 1, 5, 0, 0), (0, 0, 57, 1, 6, 0, 0), (0, 0, 63, 1, 7, 0, 0), (0, 0, 72, 1, 8, 0, 0), (0, 0, 81, 1, 9, 0, 0), (0, 0, 85, 1, 10, 0, 0), (0, 0, 92, 1, 11, 0, 0), (0, 0, 96, 1, 12, 0, 0), (0, 0, 100, 1, 13, 0, 0), (0, 0, 104, 1, 14, 0, 0), (0, 0, 107, 1, 15, 0, 0), (5, 15, 13, 13, 0, 0, 0)]
def jT_8 : List jRc := [(10, 0, 0, 13, 0, 0, 0), (11, 0, 0, 13, 0, 0, 0), (9, 0, 0, 13, 0, 0, 0), (5, 0, 110, 14, 0, 0, 0), (10, 0, 0, 14, 0, 0, 0), (11, 0, 0, 14, 0, 0, 0), (9, 0, 0, 14, 0, 0, 0), (5, 0, 114, 15, 0, 0, 0), (10, 0, 0, 15, 0, 0, 0), (9, 0, 0, 15, 0, 0, 0), (5, 0, 117, 16, 0, 0, 0), (10, 0, 0, 16, 0, 0, 0), (11, 0, 0, 16, 0, 0, 0), (9, 0, 0, 16, 0, 0, 0), (5, 1, 33, 17, 0, 0, 0), (10, 0, 0, 17, 0, 0, 0), (11, 0, 0, 17, 0, 0, 0), (9, 0, 0, 17, 0, 0, 0), (5, 1, 29, 18, 0, 0, 0), (10, 0, 0, 18, 0, 0, 0), (11, 0, 0, 18, 0, 0, 0), (9, 0, 0, 18, 0, 0, 0), (5, 15, 18, 19, 0, 0, 0), (10, 0, 0, 19, 0, 0, 0), (11, 0, 0, 19, 0, 0, 0), (9, 0, 0, 19, 0, 0, 0), (5, 0, 120, 20, 0, 0, 0), (10, 0, 0, 20, 0, 0, 0), (11, 0, 0, 20, 0, 0, 0), (9, 0, 0, 20, 0, 0, 0), (5, 15, 23, 21, 0, 0, 0), (10, 0, 0, 21, 0, 0, 0), (11, 0, 0, 21, 0, 0, 0), (9, 0, 0, 21, 0, 0, 0), (5, 0, 123, 22, 0, 0, 0), (10, 0, 0, 22, 0, 0, 0), (11, 0, 0, 22, 0, 0, 0), (9, 0, 0, 22, 0, 0, 0), (5, 3, 15, 23, 0, 0, 0), (10, 0, 0, 23, 0, 0, 0)]
def jT_9 : List jRc := [(11, 0, 0, 23, 0, 0, 0), (9, 0, 0, 23, 0, 0, 0), (5, 9, 62, 24, 0, 0, 0), (10, 0, 0, 24, 0, 0, 0), (11, 0, 0, 24, 0, 0, 0), (9, 0, 0, 24, 0, 0, 0), (5, 3, 20, 25, 0, 0, 0), (10, 0, 0, 25, 0, 0, 0), (11, 0, 0, 25, 0, 0, 0), (9, 0, 0, 25, 0, 0, 0), (5, 2, 28, 26, 0, 0, 0), (10, 0, 0, 26, 0, 0, 0), (11, 0, 0, 26, 0, 0, 0), (9, 0, 0, 26, 0, 0, 0), (5, 2, 62, 14, 0, 0, 0), (5, 2, 68, 27, 0, 0, 0), (10, 0, 0, 27, 0, 0, 0), (11, 0, 0, 27, 0, 0, 0), (9, 0, 0, 27, 0, 0, 0), (5, 2, 72, 28, 0, 0, 0), (12, 0, 0, 28, 0, 0, 0), (9, 0, 0, 28, 0, 0, 0), (5, 2, 75, 29, 0, 0, 0), (12, 0, 0, 29, 0, 0, 0), (9, 0, 0, 29, 0, 0, 0), (5, 2, 78, 30, 0, 0, 0), (12, 0, 0, 30, 0, 0, 0), (9, 0, 0, 30, 0, 0, 0), (5, 2, 84, 31, 0, 0, 0), (12, 0, 0, 31, 0, 0, 0), (9, 0, 0, 31, 0, 0, 0), (5, 2, 88, 32, 0, 0, 0), (12, 0, 0, 32, 0, 0, 0), (9, 0, 0, 32, 0, 0, 0), (5, 3, 25, 33, 0, 0, 0), (10, 0, 0, 33, 0, 0, 0), (9, 0, 0, 33, 0, 0, 0), (2, 3, 47, 0, 0, 0, 0), (5, 3, 53, 34, 0, 0, 0), (10, 0, 0, 34, 0, 0, 0)]
def jT_10 : List jRc := [(11, 0, 0, 34, 0, 0, 0), (9, 0, 0, 34, 0, 0, 0), (5, 2, 50, 35, 0, 0, 0), (10, 0, 0, 35, 0, 0, 0), (11, 0, 0, 35, 0, 0, 0), (9, 0, 0, 35, 0, 0, 0), (5, 2, 54, 36, 0, 0, 0), (10, 0, 0, 36, 0, 0, 0), (11, 0, 0, 36, 0, 0, 0), (9, 0, 0, 36, 0, 0, 0), (5, 2, 34, 37, 0, 0, 0), (10, 0, 0, 37, 0, 0, 0), (11, 0, 0, 37, 0, 0, 0), (9, 0, 0, 37, 0, 0, 0), (5, 3, 57, 38, 0, 0, 0), (10, 0, 0, 38, 0, 0, 0), (11, 0, 0, 38, 0, 0, 0), (9, 0, 0, 38, 0, 0, 0), (2, 3, 65, 1, 0, 0, 0), (2, 3, 71, 2, 0, 0, 0), (2, 3, 77, 3, 0, 0, 0), (5, 3, 29, 39, 0, 0, 0), (10, 0, 0, 39, 0, 0, 0), (11, 0, 0, 39, 0, 0, 0), (9, 0, 0, 39, 0, 0, 0), (5, 2, 46, 40, 0, 0, 0), (10, 0, 0, 40, 0, 0, 0), (11, 0, 0, 40, 0, 0, 0), (9, 0, 0, 40, 0, 0, 0), (5, 3, 33, 41, 0, 0, 0), (10, 0, 0, 41, 0, 0, 0), (11, 0, 0, 41, 0, 0, 0), (9, 0, 0, 41, 0, 0, 0), (5, 3, 37, 42, 0, 0, 0), (10, 0, 0, 42, 0, 0, 0), (9, 0, 0, 42, 0, 0, 0), (2, 3, 83, 4, 0, 0, 0), (5, 3, 86, 35, 0, 0, 0), (5, 3, 90, 43, 0, 0, 0), (10, 0, 0, 43, 0, 0, 0)]
def jT_11 : List jRc := [(9, 0, 0, 43, 0, 0, 0), (5, 3, 40, 36, 0, 0, 0), (5, 3, 132, 44, 0, 0, 0), (10, 0, 0, 44, 0, 0, 0), (11, 0, 0, 44, 0, 0, 0), (9, 0, 0, 44, 0, 0, 0), (5, 3, 153, 45, 0, 0, 0), (10, 0, 0, 45, 0, 0, 0), (11, 0, 0, 45, 0, 0, 0), (9, 0, 0, 45, 0, 0, 0), (5, 3, 160, 46, 0, 0, 0), (10, 0, 0, 46, 0, 0, 0), (11, 0, 0, 46, 0, 0, 0), (9, 0, 0, 46, 0, 0, 0), (5, 2, 58, 47, 0, 0, 0), (12, 0, 0, 47, 0, 0, 0), (9, 0, 0, 47, 0, 0, 0), (2, 12, 138, 31, 0, 0, 0), (5, 3, 163, 48, 0, 0, 0), (10, 0, 0, 48, 0, 0, 0), (11, 0, 0, 48, 0, 0, 0), (9, 0, 0, 48, 0, 0, 0), (5, 3, 166, 37, 0, 0, 0), (2, 3, 170, 5, 0, 0, 0), (2, 3, 176, 6, 0, 0, 0), (2, 3, 182, 7, 0, 0, 0), (2, 3, 188, 8, 0, 0, 0), (2, 3, 93, 9, 0, 0, 0), (5, 3, 103, 49, 0, 0, 0), (10, 0, 0, 49, 0, 0, 0), (9, 0, 0, 49, 0, 0, 0), (5, 3, 194, 50, 0, 0, 0), (10, 0, 0, 50, 0, 0, 0), (9, 0, 0, 50, 0, 0, 0), (2, 3, 107, 10, 0, 0, 0), (2, 3, 116, 11, 0, 0, 0), (5, 3, 123, 51, 0, 0, 0), (10, 0, 0, 51, 0, 0, 0), (11, 0, 0, 51, 0, 0, 0), (9, 0, 0, 51, 0, 0, 0)]
def jT_12 : List jRc := [(5, 4, 26, 52, 0, 0, 0), (10, 0, 0, 52, 0, 0, 0), (11, 0, 0, 52, 0, 0, 0), (9, 0, 0, 52, 0, 0, 0), (5, 4, 30, 36, 0, 0, 0), (2, 4, 36, 11, 0, 0, 0), (5, 4, 42, 44, 0, 0, 0), (5, 4, 46, 53, 0, 0, 0), (10, 0, 0, 53, 0, 0, 0), (9, 0, 0, 53, 0, 0, 0), (5, 4, 161, 54, 0, 0, 0), (10, 0, 0, 54, 0, 0, 0), (11, 0, 0, 54, 0, 0, 0), (9, 0, 0, 54, 0, 0, 0), (5, 4, 164, 55, 0, 0, 0), (10, 0, 0, 55, 0, 0, 0), (9, 0, 0, 55, 0, 0, 0), (5, 4, 167, 56, 0, 0, 0), (10, 0, 0, 56, 0, 0, 0), (9, 0, 0, 56, 0, 0, 0), (5, 4, 170, 57, 0, 0, 0), (10, 0, 0, 57, 0, 0, 0), (11, 0, 0, 57, 0, 0, 0), (9, 0, 0, 57, 0, 0, 0), (5, 4, 173, 38, 0, 0, 0), (5, 4, 125, 58, 0, 0, 0), (10, 0, 0, 58, 0, 0, 0), (9, 0, 0, 58, 0, 0, 0), (5, 4, 144, 40, 0, 0, 0), (5, 4, 140, 59, 0, 0, 0), (12, 0, 0, 59, 0, 0, 0), (9, 0, 0, 59, 0, 0, 0), (5, 4, 148, 60, 0, 0, 0), (10, 0, 0, 60, 0, 0, 0), (11, 0, 0, 60, 0, 0, 0), (9, 0, 0, 60, 0, 0, 0), (5, 4, 151, 39, 0, 0, 0), (2, 4, 177, 23, 0, 0, 0), (5, 4, 180, 61, 0, 0, 0), (10, 0, 0, 61, 0, 0, 0)]
def jT_13 : List jRc := [(9, 0, 0, 61, 0, 0, 0), (2, 4, 184, 24, 0, 0, 0), (2, 4, 187, 9, 0, 0, 0), (5, 4, 137, 35, 0, 0, 0), (5, 4, 190, 62, 0, 0, 0), (10, 0, 0, 62, 0, 0, 0), (9, 0, 0, 62, 0, 0, 0), (2, 4, 196, 15, 0, 0, 0), (2, 4, 199, 8, 0, 0, 0), (2, 4, 202, 6, 0, 0, 0), (2, 4, 205, 16, 0, 0, 0), (2, 4, 208, 17, 0, 0, 0), (2, 4, 211, 18, 0, 0, 0), (2, 4, 214, 5, 0, 0, 0), (5, 4, 193, 26, 0, 0, 0), (2, 3, 129, 12, 0, 0, 0), (2, 3, 138, 13, 0, 0, 0), (2, 3, 144, 14, 0, 0, 0), (5, 3, 44, 63, 0, 0, 0), (10, 0, 0, 63, 0, 0, 0), (11, 0, 0, 63, 0, 0, 0), (9, 0, 0, 63, 0, 0, 0), (5, 9, 65, 64, 0, 0, 0), (10, 0, 0, 64, 0, 0, 0), (11, 0, 0, 64, 0, 0, 0), (9, 0, 0, 64, 0, 0, 0), (5, 0, 127, 65, 0, 0, 0), (10, 0, 0, 65, 0, 0, 0), (9, 0, 0, 65, 0, 0, 0), (5, 0, 348, 66, 0, 0, 0), (10, 0, 0, 66, 0, 0, 0), (11, 0, 0, 66, 0, 0, 0), (9, 0, 0, 66, 0, 0, 0), (5, 0, 351, 67, 0, 0, 0), (10, 0, 0, 67, 0, 0, 0), (11, 0, 0, 67, 0, 0, 0), (9, 0, 0, 67, 0, 0, 0), (5, 0, 130, 68, 0, 0, 0), (10, 0, 0, 68, 0, 0, 0), (11, 0, 0, 68, 0, 0, 0)]
def jT_14 : List jRc := [(9, 0, 0, 68, 0, 0, 0), (5, 0, 134, 69, 0, 0, 0), (10, 0, 0, 69, 0, 0, 0), (11, 0, 0, 69, 0, 0, 0), (9, 0, 0, 69, 0, 0, 0), (5, 0, 137, 70, 0, 0, 0), (10, 0, 0, 70, 0, 0, 0), (11, 0, 0, 70, 0, 0, 0), (9, 0, 0, 70, 0, 0, 0), (5, 15, 28, 71, 0, 0, 0), (10, 0, 0, 71, 0, 0, 0), (11, 0, 0, 71, 0, 0, 0), (9, 0, 0, 71, 0, 0, 0), (5, 15, 33, 72, 0, 0, 0), (10, 0, 0, 72, 0, 0, 0), (11, 0, 0, 72, 0, 0, 0), (9, 0, 0, 72, 0, 0, 0), (5, 0, 138, 73, 0, 0, 0), (10, 0, 0, 73, 0, 0, 0), (11, 0, 0, 73, 0, 0, 0), (9, 0, 0, 73, 0, 0, 0), (5, 0, 154, 74, 0, 0, 0), (10, 0, 0, 74, 0, 0, 0), (11, 0, 0, 74, 0, 0, 0), (9, 0, 0, 74, 0, 0, 0), (5, 0, 157, 75, 0, 0, 0), (12, 0, 0, 75, 0, 0, 0), (9, 0, 0, 75, 0, 0, 0), (7, 14, 265, 0, 0, 1431655765, 0), (7, 14, 266, 0, 0, 858993459, 0), (7, 14, 267, 0, 0, 252645135, 0), (5, 0, 162, 76, 0, 0, 0), (10, 0, 0, 76, 0, 0, 0), (11, 0, 0, 76, 0, 0, 0), (9, 0, 0, 76, 0, 0, 0), (5, 0, 165, 77, 0, 0, 0), (10, 0, 0, 77, 0, 0, 0), (11, 0, 0, 77, 0, 0, 0), (9, 0, 0, 77, 0, 0, 0), (5, 7, 53, 78, 0, 0, 0)]
def jT_15 : List jRc := [(10, 0, 0, 78, 0, 0, 0), (11, 0, 0, 78, 0, 0, 0), (9, 0, 0, 78, 0, 0, 0), (5, 0, 168, 79, 0, 0, 0), (10, 0, 0, 79, 0, 0, 0), (11, 0, 0, 79, 0, 0, 0), (9, 0, 0, 79, 0, 0, 0), (5, 15, 37, 80, 0, 0, 0), (10, 0, 0, 80, 0, 0, 0), (11, 0, 0, 80, 0, 0, 0), (9, 0, 0, 80, 0, 0, 0), (5, 0, 169, 81, 0, 0, 0), (10, 0, 0, 81, 0, 0, 0), (9, 0, 0, 81, 0, 0, 0), (5, 0, 178, 82, 0, 0, 0), (12, 0, 0, 82, 0, 0, 0), (9, 0, 0, 82, 0, 0, 0), (5, 15, 42, 83, 0, 0, 0), (10, 0, 0, 83, 0, 0, 0), (11, 0, 0, 83, 0, 0, 0), (9, 0, 0, 83, 0, 0, 0), (5, 0, 197, 84, 0, 0, 0), (10, 0, 0, 84, 0, 0, 0), (11, 0, 0, 84, 0, 0, 0), (9, 0, 0, 84, 0, 0, 0), (5, 0, 200, 85, 0, 0, 0), (10, 0, 0, 85, 0, 0, 0), (11, 0, 0, 85, 0, 0, 0), (9, 0, 0, 85, 0, 0, 0), (5, 7, 110, 86, 0, 0, 0), (10, 0, 0, 86, 0, 0, 0), (11, 0, 0, 86, 0, 0, 0), (9, 0, 0, 86, 0, 0, 0), (5, 7, 96, 87, 0, 0, 0), (10, 0, 0, 87, 0, 0, 0), (11, 0, 0, 87, 0, 0, 0), (9, 0, 0, 87, 0, 0, 0), (5, 7, 103, 52, 0, 0, 0), (5, 7, 107, 88, 0, 0, 0), (10, 0, 0, 88, 0, 0, 0)]
def jT_16 : List jRc := [(9, 0, 0, 88, 0, 0, 0), (5, 7, 151, 89, 0, 0, 0), (10, 0, 0, 89, 0, 0, 0), (9, 0, 0, 89, 0, 0, 0), (5, 7, 82, 84, 0, 0, 0), (5, 7, 157, 90, 0, 0, 0), (10, 0, 0, 90, 0, 0, 0), (11, 0, 0, 90, 0, 0, 0), (9, 0, 0, 90, 0, 0, 0), (5, 4, 60, 91, 0, 0, 0), (12, 0, 0, 91, 0, 0, 0), (9, 0, 0, 91, 0, 0, 0), (5, 4, 64, 92, 0, 0, 0), (12, 0, 0, 92, 0, 0, 0), (9, 0, 0, 92, 0, 0, 0), (5, 4, 68, 93, 0, 0, 0), (12, 0, 0, 93, 0, 0, 0), (9, 0, 0, 93, 0, 0, 0), (5, 4, 72, 94, 0, 0, 0), (12, 0, 0, 94, 0, 0, 0), (9, 0, 0, 94, 0, 0, 0), (8, 4, 88, 0, 0, 0, (-1000000)), (8, 4, 90, 0, 0, 0, 1000000), (5, 4, 92, 95, 0, 0, 0), (12, 0, 0, 95, 0, 0, 0), (9, 0, 0, 95, 0, 0, 0), (5, 4, 95, 96, 0, 0, 0), (12, 0, 0, 96, 0, 0, 0), (9, 0, 0, 96, 0, 0, 0), (5, 4, 76, 97, 0, 0, 0), (12, 0, 0, 97, 0, 0, 0), (9, 0, 0, 97, 0, 0, 0), (5, 4, 82, 30, 0, 0, 0), (5, 4, 85, 2, 0, 0, 0), (5, 7, 147, 30, 0, 0, 0), (5, 7, 164, 2, 0, 0, 0), (5, 7, 64, 74, 0, 0, 0), (5, 7, 113, 98, 0, 0, 0), (10, 0, 0, 98, 0, 0, 0), (9, 0, 0, 98, 0, 0, 0)]
def jT_17 : List jRc := [(5, 7, 161, 99, 0, 0, 0), (10, 0, 0, 99, 0, 0, 0), (11, 0, 0, 99, 0, 0, 0), (9, 0, 0, 99, 0, 0, 0), (5, 0, 203, 78, 0, 0, 0), (5, 15, 46, 100, 0, 0, 0), (10, 0, 0, 100, 0, 0, 0), (11, 0, 0, 100, 0, 0, 0), (9, 0, 0, 100, 0, 0, 0), (5, 15, 50, 101, 0, 0, 0), (10, 0, 0, 101, 0, 0, 0), (11, 0, 0, 101, 0, 0, 0), (9, 0, 0, 101, 0, 0, 0), (5, 0, 212, 102, 0, 0, 0), (10, 0, 0, 102, 0, 0, 0), (11, 0, 0, 102, 0, 0, 0), (9, 0, 0, 102, 0, 0, 0), (5, 7, 75, 103, 0, 0, 0), (10, 0, 0, 103, 0, 0, 0), (11, 0, 0, 103, 0, 0, 0), (9, 0, 0, 103, 0, 0, 0), (5, 7, 79, 104, 0, 0, 0), (10, 0, 0, 104, 0, 0, 0), (11, 0, 0, 104, 0, 0, 0), (9, 0, 0, 104, 0, 0, 0), (8, 8, 15, 0, 0, 0, 100000000), (5, 7, 85, 105, 0, 0, 0), (10, 0, 0, 105, 0, 0, 0), (11, 0, 0, 105, 0, 0, 0), (9, 0, 0, 105, 0, 0, 0), (5, 8, 21, 30, 0, 0, 0), (8, 8, 27, 0, 0, 0, 10), (5, 0, 216, 106, 0, 0, 0), (10, 0, 0, 106, 0, 0, 0), (11, 0, 0, 106, 0, 0, 0), (9, 0, 0, 106, 0, 0, 0), (8, 8, 29, 0, 0, 0, 100), (5, 15, 54, 107, 0, 0, 0), (10, 0, 0, 107, 0, 0, 0), (11, 0, 0, 107, 0, 0, 0)]
def jT_18 : List jRc := [(9, 0, 0, 107, 0, 0, 0), (5, 0, 222, 108, 0, 0, 0), (10, 0, 0, 108, 0, 0, 0), (11, 0, 0, 108, 0, 0, 0), (9, 0, 0, 108, 0, 0, 0), (5, 15, 58, 109, 0, 0, 0), (10, 0, 0, 109, 0, 0, 0), (11, 0, 0, 109, 0, 0, 0), (9, 0, 0, 109, 0, 0, 0), (5, 0, 228, 110, 0, 0, 0), (12, 0, 0, 110, 0, 0, 0), (9, 0, 0, 110, 0, 0, 0), (5, 15, 62, 111, 0, 0, 0), (10, 0, 0, 111, 0, 0, 0), (11, 0, 0, 111, 0, 0, 0), (9, 0, 0, 111, 0, 0, 0), (5, 0, 232, 112, 0, 0, 0), (10, 0, 0, 112, 0, 0, 0), (11, 0, 0, 112, 0, 0, 0), (9, 0, 0, 112, 0, 0, 0), (5, 7, 89, 113, 0, 0, 0), (10, 0, 0, 113, 0, 0, 0), (9, 0, 0, 113, 0, 0, 0), (5, 15, 66, 114, 0, 0, 0), (10, 0, 0, 114, 0, 0, 0), (11, 0, 0, 114, 0, 0, 0), (9, 0, 0, 114, 0, 0, 0), (8, 0, 235, 0, 0, 0, (-1000000000000000)), (5, 0, 237, 86, 0, 0, 0), (5, 0, 240, 115, 0, 0, 0), (10, 0, 0, 115, 0, 0, 0), (11, 0, 0, 115, 0, 0, 0), (9, 0, 0, 115, 0, 0, 0), (8, 7, 119, 0, 0, 0, 10000000), (5, 7, 121, 116, 0, 0, 0), (10, 0, 0, 116, 0, 0, 0), (11, 0, 0, 116, 0, 0, 0), (9, 0, 0, 116, 0, 0, 0), (8, 7, 124, 0, 0, 0, 100000000), (5, 7, 132, 117, 0, 0, 0)]
def jT_19 : List jRc := [(10, 0, 0, 117, 0, 0, 0), (11, 0, 0, 117, 0, 0, 0), (9, 0, 0, 117, 0, 0, 0), (8, 7, 136, 0, 0, 0, 1000000), (5, 7, 138, 118, 0, 0, 0), (12, 0, 0, 118, 0, 0, 0), (9, 0, 0, 118, 0, 0, 0), (5, 15, 71, 119, 0, 0, 0), (10, 0, 0, 119, 0, 0, 0), (11, 0, 0, 119, 0, 0, 0), (9, 0, 0, 119, 0, 0, 0), (5, 0, 243, 120, 0, 0, 0), (10, 0, 0, 120, 0, 0, 0), (11, 0, 0, 120, 0, 0, 0), (9, 0, 0, 120, 0, 0, 0), (5, 7, 68, 121, 0, 0, 0), (10, 0, 0, 121, 0, 0, 0), (11, 0, 0, 121, 0, 0, 0), (9, 0, 0, 121, 0, 0, 0), (5, 7, 71, 122, 0, 0, 0), (10, 0, 0, 122, 0, 0, 0), (11, 0, 0, 122, 0, 0, 0), (9, 0, 0, 122, 0, 0, 0), (5, 7, 60, 64, 0, 0, 0), (5, 15, 76, 123, 0, 0, 0), (10, 0, 0, 123, 0, 0, 0), (11, 0, 0, 123, 0, 0, 0), (9, 0, 0, 123, 0, 0, 0), (5, 0, 246, 116, 0, 0, 0), (5, 15, 80, 124, 0, 0, 0), (10, 0, 0, 124, 0, 0, 0), (11, 0, 0, 124, 0, 0, 0), (9, 0, 0, 124, 0, 0, 0), (5, 0, 249, 125, 0, 0, 0), (10, 0, 0, 125, 0, 0, 0), (11, 0, 0, 125, 0, 0, 0), (9, 0, 0, 125, 0, 0, 0), (5, 10, 32, 86, 0, 0, 0), (5, 10, 37, 115, 0, 0, 0), (5, 10, 41, 73, 0, 0, 0)]
def jT_20 : List jRc := [(5, 10, 45, 121, 0, 0, 0), (5, 10, 51, 120, 0, 0, 0), (5, 10, 55, 75, 0, 0, 0), (5, 15, 84, 126, 0, 0, 0), (10, 0, 0, 126, 0, 0, 0), (11, 0, 0, 126, 0, 0, 0), (9, 0, 0, 126, 0, 0, 0), (5, 0, 252, 127, 0, 0, 0), (10, 0, 0, 127, 0, 0, 0), (11, 0, 0, 127, 0, 0, 0), (9, 0, 0, 127, 0, 0, 0), (5, 10, 64, 122, 0, 0, 0), (5, 10, 72, 128, 0, 0, 0), (10, 0, 0, 128, 0, 0, 0), (11, 0, 0, 128, 0, 0, 0), (9, 0, 0, 128, 0, 0, 0), (5, 10, 79, 129, 0, 0, 0), (12, 0, 0, 129, 0, 0, 0), (9, 0, 0, 129, 0, 0, 0), (5, 10, 125, 99, 0, 0, 0), (5, 0, 255, 130, 0, 0, 0), (10, 0, 0, 130, 0, 0, 0), (11, 0, 0, 130, 0, 0, 0), (9, 0, 0, 130, 0, 0, 0), (5, 0, 258, 131, 0, 0, 0), (10, 0, 0, 131, 0, 0, 0), (11, 0, 0, 131, 0, 0, 0), (9, 0, 0, 131, 0, 0, 0), (5, 0, 261, 132, 0, 0, 0), (10, 0, 0, 132, 0, 0, 0), (11, 0, 0, 132, 0, 0, 0), (9, 0, 0, 132, 0, 0, 0), (5, 15, 88, 133, 0, 0, 0), (10, 0, 0, 133, 0, 0, 0), (11, 0, 0, 133, 0, 0, 0), (9, 0, 0, 133, 0, 0, 0), (5, 0, 264, 134, 0, 0, 0), (10, 0, 0, 134, 0, 0, 0), (11, 0, 0, 134, 0, 0, 0), (9, 0, 0, 134, 0, 0, 0)]
def jT_21 : List jRc := [(5, 15, 92, 135, 0, 0, 0), (10, 0, 0, 135, 0, 0, 0), (11, 0, 0, 135, 0, 0, 0), (9, 0, 0, 135, 0, 0, 0), (5, 0, 268, 136, 0, 0, 0), (10, 0, 0, 136, 0, 0, 0), (11, 0, 0, 136, 0, 0, 0), (9, 0, 0, 136, 0, 0, 0), (5, 10, 61, 112, 0, 0, 0), (5, 15, 96, 137, 0, 0, 0), (10, 0, 0, 137, 0, 0, 0), (11, 0, 0, 137, 0, 0, 0), (9, 0, 0, 137, 0, 0, 0), (5, 0, 277, 138, 0, 0, 0), (10, 0, 0, 138, 0, 0, 0), (11, 0, 0, 138, 0, 0, 0), (9, 0, 0, 138, 0, 0, 0), (5, 8, 31, 117, 0, 0, 0), (8, 0, 280, 0, 0, 0, 1000000), (5, 15, 100, 139, 0, 0, 0), (10, 0, 0, 139, 0, 0, 0), (11, 0, 0, 139, 0, 0, 0), (9, 0, 0, 139, 0, 0, 0), (5, 0, 282, 140, 0, 0, 0), (10, 0, 0, 140, 0, 0, 0), (11, 0, 0, 140, 0, 0, 0), (9, 0, 0, 140, 0, 0, 0), (5, 8, 35, 138, 0, 0, 0), (5, 15, 104, 141, 0, 0, 0), (10, 0, 0, 141, 0, 0, 0), (11, 0, 0, 141, 0, 0, 0), (9, 0, 0, 141, 0, 0, 0), (5, 0, 285, 142, 0, 0, 0), (10, 0, 0, 142, 0, 0, 0), (11, 0, 0, 142, 0, 0, 0), (9, 0, 0, 142, 0, 0, 0), (5, 10, 86, 143, 0, 0, 0), (10, 0, 0, 143, 0, 0, 0), (11, 0, 0, 143, 0, 0, 0), (9, 0, 0, 143, 0, 0, 0)]
def jT_22 : List jRc := [(5, 10, 98, 84, 0, 0, 0), (5, 10, 101, 144, 0, 0, 0), (10, 0, 0, 144, 0, 0, 0), (9, 0, 0, 144, 0, 0, 0), (5, 10, 105, 103, 0, 0, 0), (5, 10, 115, 140, 0, 0, 0), (5, 10, 121, 138, 0, 0, 0), (5, 0, 288, 145, 0, 0, 0), (10, 0, 0, 145, 0, 0, 0), (11, 0, 0, 145, 0, 0, 0), (9, 0, 0, 145, 0, 0, 0), (8, 0, 291, 0, 0, 0, 10000000), (5, 15, 108, 146, 0, 0, 0), (10, 0, 0, 146, 0, 0, 0), (11, 0, 0, 146, 0, 0, 0), (9, 0, 0, 146, 0, 0, 0), (5, 0, 293, 147, 0, 0, 0), (10, 0, 0, 147, 0, 0, 0), (11, 0, 0, 147, 0, 0, 0), (9, 0, 0, 147, 0, 0, 0), (7, 7, 150, 0, 0, 500000, 0), (5, 15, 112, 148, 0, 0, 0), (10, 0, 0, 148, 0, 0, 0), (11, 0, 0, 148, 0, 0, 0), (9, 0, 0, 148, 0, 0, 0), (5, 0, 296, 149, 0, 0, 0), (10, 0, 0, 149, 0, 0, 0), (11, 0, 0, 149, 0, 0, 0), (9, 0, 0, 149, 0, 0, 0), (5, 9, 69, 121, 0, 0, 0), (5, 9, 73, 150, 0, 0, 0), (10, 0, 0, 150, 0, 0, 0), (9, 0, 0, 150, 0, 0, 0), (5, 9, 77, 128, 0, 0, 0), (5, 0, 299, 151, 0, 0, 0), (10, 0, 0, 151, 0, 0, 0), (11, 0, 0, 151, 0, 0, 0), (9, 0, 0, 151, 0, 0, 0), (5, 0, 302, 152, 0, 0, 0), (10, 0, 0, 152, 0, 0, 0)]
def jT_23 : List jRc := [(11, 0, 0, 152, 0, 0, 0), (9, 0, 0, 152, 0, 0, 0), (5, 15, 117, 153, 0, 0, 0), (10, 0, 0, 153, 0, 0, 0), (11, 0, 0, 153, 0, 0, 0), (9, 0, 0, 153, 0, 0, 0), (5, 0, 305, 154, 0, 0, 0), (10, 0, 0, 154, 0, 0, 0), (11, 0, 0, 154, 0, 0, 0), (9, 0, 0, 154, 0, 0, 0), (5, 6, 20, 155, 0, 0, 0), (10, 0, 0, 155, 0, 0, 0), (9, 0, 0, 155, 0, 0, 0), (5, 6, 23, 156, 0, 0, 0), (10, 0, 0, 156, 0, 0, 0), (11, 0, 0, 156, 0, 0, 0), (9, 0, 0, 156, 0, 0, 0), (5, 0, 308, 157, 0, 0, 0), (10, 0, 0, 157, 0, 0, 0), (11, 0, 0, 157, 0, 0, 0), (9, 0, 0, 157, 0, 0, 0), (5, 5, 25, 87, 0, 0, 0), (5, 15, 121, 158, 0, 0, 0), (10, 0, 0, 158, 0, 0, 0), (11, 0, 0, 158, 0, 0, 0), (9, 0, 0, 158, 0, 0, 0), (5, 15, 126, 159, 0, 0, 0), (10, 0, 0, 159, 0, 0, 0), (11, 0, 0, 159, 0, 0, 0), (9, 0, 0, 159, 0, 0, 0), (5, 0, 311, 160, 0, 0, 0), (10, 0, 0, 160, 0, 0, 0), (9, 0, 0, 160, 0, 0, 0), (5, 15, 130, 161, 0, 0, 0), (10, 0, 0, 161, 0, 0, 0), (11, 0, 0, 161, 0, 0, 0), (9, 0, 0, 161, 0, 0, 0), (5, 0, 314, 162, 0, 0, 0), (10, 0, 0, 162, 0, 0, 0), (9, 0, 0, 162, 0, 0, 0)]
def jT_24 : List jRc := [(5, 0, 354, 163, 0, 0, 0), (10, 0, 0, 163, 0, 0, 0), (9, 0, 0, 163, 0, 0, 0), (8, 0, 357, 0, 0, 0, 1103515245), (8, 0, 359, 0, 0, 0, 12345), (8, 0, 361, 0, 0, 0, 2147483647), (5, 15, 134, 164, 0, 0, 0), (10, 0, 0, 164, 0, 0, 0), (11, 0, 0, 164, 0, 0, 0), (9, 0, 0, 164, 0, 0, 0), (5, 0, 317, 165, 0, 0, 0), (10, 0, 0, 165, 0, 0, 0), (11, 0, 0, 165, 0, 0, 0), (9, 0, 0, 165, 0, 0, 0), (5, 15, 139, 166, 0, 0, 0), (10, 0, 0, 166, 0, 0, 0), (11, 0, 0, 166, 0, 0, 0), (9, 0, 0, 166, 0, 0, 0), (5, 15, 143, 167, 0, 0, 0), (10, 0, 0, 167, 0, 0, 0), (11, 0, 0, 167, 0, 0, 0), (9, 0, 0, 167, 0, 0, 0), (5, 0, 321, 25, 0, 0, 0), (5, 0, 324, 168, 0, 0, 0), (10, 0, 0, 168, 0, 0, 0), (11, 0, 0, 168, 0, 0, 0), (9, 0, 0, 168, 0, 0, 0), (5, 4, 50, 169, 0, 0, 0), (12, 0, 0, 169, 0, 0, 0), (9, 0, 0, 169, 0, 0, 0), (2, 4, 97, 25, 0, 0, 0), (2, 4, 100, 26, 0, 0, 0), (2, 4, 103, 27, 0, 0, 0), (2, 4, 106, 28, 0, 0, 0), (2, 4, 109, 29, 0, 0, 0), (2, 4, 112, 30, 0, 0, 0), (5, 4, 115, 34, 0, 0, 0), (5, 4, 54, 170, 0, 0, 0), (10, 0, 0, 170, 0, 0, 0), (9, 0, 0, 170, 0, 0, 0)]
def jT_25 : List jRc := [(5, 4, 119, 171, 0, 0, 0), (10, 0, 0, 171, 0, 0, 0), (9, 0, 0, 171, 0, 0, 0), (5, 4, 128, 172, 0, 0, 0), (10, 0, 0, 172, 0, 0, 0), (9, 0, 0, 172, 0, 0, 0), (2, 4, 134, 21, 0, 0, 0), (2, 4, 155, 22, 0, 0, 0), (5, 4, 158, 173, 0, 0, 0), (12, 0, 0, 173, 0, 0, 0), (9, 0, 0, 173, 0, 0, 0), (2, 4, 131, 20, 0, 0, 0), (2, 4, 122, 19, 0, 0, 0), (5, 4, 57, 174, 0, 0, 0), (10, 0, 0, 174, 0, 0, 0), (11, 0, 0, 174, 0, 0, 0), (9, 0, 0, 174, 0, 0, 0), (5, 0, 328, 175, 0, 0, 0), (10, 0, 0, 175, 0, 0, 0), (9, 0, 0, 175, 0, 0, 0), (5, 0, 363, 176, 0, 0, 0), (10, 0, 0, 176, 0, 0, 0), (11, 0, 0, 176, 0, 0, 0), (9, 0, 0, 176, 0, 0, 0), (5, 0, 331, 177, 0, 0, 0), (10, 0, 0, 177, 0, 0, 0), (9, 0, 0, 177, 0, 0, 0), (5, 0, 367, 96, 0, 0, 0), (5, 0, 373, 95, 0, 0, 0), (5, 15, 147, 178, 0, 0, 0), (10, 0, 0, 178, 0, 0, 0), (11, 0, 0, 178, 0, 0, 0), (9, 0, 0, 178, 0, 0, 0), (5, 0, 334, 179, 0, 0, 0), (10, 0, 0, 179, 0, 0, 0), (11, 0, 0, 179, 0, 0, 0), (9, 0, 0, 179, 0, 0, 0), (5, 5, 29, 17, 0, 0, 0), (7, 5, 35, 0, 0, 65535, 0), (5, 5, 36, 18, 0, 0, 0)]
def jT_26 : List jRc := [(5, 5, 39, 14, 0, 0, 0), (5, 5, 42, 180, 0, 0, 0), (10, 0, 0, 180, 0, 0, 0), (11, 0, 0, 180, 0, 0, 0), (9, 0, 0, 180, 0, 0, 0), (5, 1, 25, 27, 0, 0, 0), (5, 15, 151, 181, 0, 0, 0), (10, 0, 0, 181, 0, 0, 0), (11, 0, 0, 181, 0, 0, 0), (9, 0, 0, 181, 0, 0, 0), (5, 0, 338, 27, 0, 0, 0), (5, 15, 155, 182, 0, 0, 0), (10, 0, 0, 182, 0, 0, 0), (11, 0, 0, 182, 0, 0, 0), (9, 0, 0, 182, 0, 0, 0), (5, 0, 341, 183, 0, 0, 0), (10, 0, 0, 183, 0, 0, 0), (11, 0, 0, 183, 0, 0, 0), (9, 0, 0, 183, 0, 0, 0), (5, 5, 46, 3, 0, 0, 0), (5, 5, 49, 27, 0, 0, 0), (5, 5, 52, 69, 0, 0, 0), (5, 5, 55, 184, 0, 0, 0), (10, 0, 0, 184, 0, 0, 0), (11, 0, 0, 184, 0, 0, 0), (9, 0, 0, 184, 0, 0, 0), (5, 5, 58, 185, 0, 0, 0), (10, 0, 0, 185, 0, 0, 0), (9, 0, 0, 185, 0, 0, 0), (5, 5, 62, 74, 0, 0, 0), (5, 0, 345, 156, 0, 0, 0), (5, 15, 159, 186, 0, 0, 0), (10, 0, 0, 186, 0, 0, 0), (11, 0, 0, 186, 0, 0, 0), (9, 0, 0, 186, 0, 0, 0), (5, 15, 17, 187, 0, 0, 0), (10, 0, 0, 187, 0, 0, 0), (11, 0, 0, 187, 0, 0, 0), (9, 0, 0, 187, 0, 0, 0), (5, 15, 22, 188, 0, 0, 0)]
def jT_27 : List jRc := [(10, 0, 0, 188, 0, 0, 0), (11, 0, 0, 188, 0, 0, 0), (9, 0, 0, 188, 0, 0, 0), (5, 15, 27, 189, 0, 0, 0), (10, 0, 0, 189, 0, 0, 0), (11, 0, 0, 189, 0, 0, 0), (9, 0, 0, 189, 0, 0, 0), (5, 11, 244, 190, 0, 0, 0), (10, 0, 0, 190, 0, 0, 0), (9, 0, 0, 190, 0, 0, 0), (5, 11, 156, 191, 0, 0, 0), (10, 0, 0, 191, 0, 0, 0), (9, 0, 0, 191, 0, 0, 0), (5, 11, 41, 192, 0, 0, 0), (10, 0, 0, 192, 0, 0, 0), (9, 0, 0, 192, 0, 0, 0), (5, 11, 37, 193, 0, 0, 0), (10, 0, 0, 193, 0, 0, 0), (9, 0, 0, 193, 0, 0, 0), (5, 11, 26, 194, 0, 0, 0), (10, 0, 0, 194, 0, 0, 0), (9, 0, 0, 194, 0, 0, 0), (5, 11, 30, 195, 0, 0, 0), (12, 0, 0, 195, 0, 0, 0), (9, 0, 0, 195, 0, 0, 0), (5, 11, 44, 196, 0, 0, 0), (10, 0, 0, 196, 0, 0, 0), (9, 0, 0, 196, 0, 0, 0), (5, 11, 163, 197, 0, 0, 0), (10, 0, 0, 197, 0, 0, 0), (9, 0, 0, 197, 0, 0, 0), (5, 11, 51, 198, 0, 0, 0), (12, 0, 0, 198, 0, 0, 0), (9, 0, 0, 198, 0, 0, 0), (5, 11, 54, 199, 0, 0, 0), (12, 0, 0, 199, 0, 0, 0), (9, 0, 0, 199, 0, 0, 0), (5, 11, 167, 200, 0, 0, 0), (10, 0, 0, 200, 0, 0, 0), (9, 0, 0, 200, 0, 0, 0)]
def jT_28 : List jRc := [(5, 11, 48, 201, 0, 0, 0), (10, 0, 0, 201, 0, 0, 0), (9, 0, 0, 201, 0, 0, 0), (5, 11, 247, 202, 0, 0, 0), (10, 0, 0, 202, 0, 0, 0), (9, 0, 0, 202, 0, 0, 0), (5, 11, 229, 203, 0, 0, 0), (10, 0, 0, 203, 0, 0, 0), (9, 0, 0, 203, 0, 0, 0), (5, 11, 171, 204, 0, 0, 0), (10, 0, 0, 204, 0, 0, 0), (9, 0, 0, 204, 0, 0, 0), (5, 11, 175, 205, 0, 0, 0), (10, 0, 0, 205, 0, 0, 0), (9, 0, 0, 205, 0, 0, 0), (5, 11, 134, 206, 0, 0, 0), (10, 0, 0, 206, 0, 0, 0), (9, 0, 0, 206, 0, 0, 0), (8, 11, 141, 0, 0, 0, 27), (8, 11, 143, 0, 0, 0, 97), (5, 11, 179, 207, 0, 0, 0), (10, 0, 0, 207, 0, 0, 0), (9, 0, 0, 207, 0, 0, 0), (5, 11, 232, 208, 0, 0, 0), (10, 0, 0, 208, 0, 0, 0), (9, 0, 0, 208, 0, 0, 0), (5, 11, 186, 209, 0, 0, 0), (10, 0, 0, 209, 0, 0, 0), (9, 0, 0, 209, 0, 0, 0), (5, 11, 235, 210, 0, 0, 0), (10, 0, 0, 210, 0, 0, 0), (9, 0, 0, 210, 0, 0, 0), (5, 11, 238, 211, 0, 0, 0), (10, 0, 0, 211, 0, 0, 0), (9, 0, 0, 211, 0, 0, 0), (5, 11, 210, 212, 0, 0, 0), (10, 0, 0, 212, 0, 0, 0), (9, 0, 0, 212, 0, 0, 0), (5, 11, 574, 213, 0, 0, 0), (10, 0, 0, 213, 0, 0, 0)]
def jT_29 : List jRc := [(9, 0, 0, 213, 0, 0, 0), (5, 11, 553, 214, 0, 0, 0), (10, 0, 0, 214, 0, 0, 0), (9, 0, 0, 214, 0, 0, 0), (5, 11, 547, 215, 0, 0, 0), (10, 0, 0, 215, 0, 0, 0), (9, 0, 0, 215, 0, 0, 0), (5, 11, 550, 216, 0, 0, 0), (10, 0, 0, 216, 0, 0, 0), (9, 0, 0, 216, 0, 0, 0), (5, 11, 556, 217, 0, 0, 0), (10, 0, 0, 217, 0, 0, 0), (9, 0, 0, 217, 0, 0, 0), (5, 11, 559, 218, 0, 0, 0), (10, 0, 0, 218, 0, 0, 0), (9, 0, 0, 218, 0, 0, 0), (5, 11, 538, 219, 0, 0, 0), (10, 0, 0, 219, 0, 0, 0), (9, 0, 0, 219, 0, 0, 0), (5, 11, 562, 220, 0, 0, 0), (10, 0, 0, 220, 0, 0, 0), (9, 0, 0, 220, 0, 0, 0), (5, 11, 544, 221, 0, 0, 0), (10, 0, 0, 221, 0, 0, 0), (9, 0, 0, 221, 0, 0, 0), (5, 11, 577, 222, 0, 0, 0), (10, 0, 0, 222, 0, 0, 0), (9, 0, 0, 222, 0, 0, 0), (5, 11, 565, 223, 0, 0, 0), (10, 0, 0, 223, 0, 0, 0), (9, 0, 0, 223, 0, 0, 0), (5, 11, 541, 224, 0, 0, 0), (12, 0, 0, 224, 0, 0, 0), (9, 0, 0, 224, 0, 0, 0), (5, 11, 568, 225, 0, 0, 0), (10, 0, 0, 225, 0, 0, 0), (9, 0, 0, 225, 0, 0, 0), (5, 11, 571, 226, 0, 0, 0), (10, 0, 0, 226, 0, 0, 0), (9, 0, 0, 226, 0, 0, 0)]
def jT_30 : List jRc := [(5, 11, 256, 227, 0, 0, 0), (10, 0, 0, 227, 0, 0, 0), (9, 0, 0, 227, 0, 0, 0), (5, 15, 32, 228, 0, 0, 0), (10, 0, 0, 228, 0, 0, 0), (11, 0, 0, 228, 0, 0, 0), (9, 0, 0, 228, 0, 0, 0), (3, 15, 10, 12, 0, 0, 0), (5, 15, 12, 229, 0, 0, 0), (10, 0, 0, 229, 0, 0, 0), (9, 0, 0, 229, 0, 0, 0), (6, 11, 268, 0, 0, 0, 0), (0, 11, 11, 12, 0, 0, 0), (0, 11, 1, 12, 1, 0, 0), (0, 11, 20, 12, 2, 0, 0), (0, 11, 23, 12, 3, 0, 0), (0, 11, 34, 12, 4, 0, 0), (0, 11, 14, 12, 5, 0, 0), (0, 11, 17, 12, 6, 0, 0), (0, 11, 250, 12, 7, 0, 0), (0, 11, 253, 12, 8, 0, 0), (0, 11, 7, 12, 9, 0, 0), (0, 11, 58, 12, 10, 0, 0), (0, 11, 62, 12, 11, 0, 0), (0, 11, 65, 12, 12, 0, 0), (0, 11, 68, 12, 13, 0, 0), (0, 11, 71, 12, 14, 0, 0), (0, 11, 74, 12, 15, 0, 0), (0, 11, 77, 12, 16, 0, 0), (0, 11, 80, 12, 17, 0, 0), (0, 11, 83, 12, 18, 0, 0), (0, 11, 86, 12, 19, 0, 0), (0, 11, 89, 12, 20, 0, 0), (0, 11, 92, 12, 21, 0, 0), (0, 11, 95, 12, 22, 0, 0), (0, 11, 98, 12, 23, 0, 0), (0, 11, 101, 12, 24, 0, 0), (0, 11, 104, 12, 25, 0, 0), (0, 11, 107, 12, 26, 0, 0), (0, 11, 110, 12, 27, 0, 0)]
def jT_31 : List jRc := [(0, 11, 113, 12, 28, 0, 0), (0, 11, 116, 12, 29, 0, 0), (0, 11, 119, 12, 30, 0, 0), (0, 11, 122, 12, 31, 0, 0), (0, 11, 125, 12, 32, 0, 0), (0, 11, 128, 12, 33, 0, 0), (0, 11, 131, 12, 34, 0, 0), (0, 11, 138, 12, 35, 0, 0), (0, 11, 149, 12, 36, 0, 0), (0, 11, 152, 12, 37, 0, 0), (0, 11, 160, 12, 38, 0, 0), (0, 11, 183, 12, 39, 0, 0), (0, 11, 189, 12, 40, 0, 0), (0, 11, 192, 12, 41, 0, 0), (0, 11, 241, 12, 42, 0, 0), (0, 11, 195, 12, 43, 0, 0), (0, 11, 223, 12, 44, 0, 0), (0, 11, 217, 12, 45, 0, 0), (0, 11, 214, 12, 46, 0, 0), (0, 11, 226, 12, 47, 0, 0), (0, 11, 259, 12, 48, 0, 0), (0, 11, 145, 12, 49, 0, 0), (0, 11, 262, 12, 50, 0, 0), (0, 11, 273, 12, 51, 0, 0), (0, 11, 276, 12, 52, 0, 0), (0, 11, 400, 12, 53, 0, 0), (0, 11, 279, 12, 54, 0, 0), (0, 11, 282, 12, 55, 0, 0), (0, 11, 265, 12, 56, 0, 0), (0, 11, 514, 12, 57, 0, 0), (0, 11, 285, 12, 58, 0, 0), (0, 11, 289, 12, 59, 0, 0), (0, 11, 292, 12, 60, 0, 0), (0, 11, 295, 12, 61, 0, 0), (0, 11, 298, 12, 62, 0, 0), (0, 11, 301, 12, 63, 0, 0), (0, 11, 304, 12, 64, 0, 0), (0, 11, 307, 12, 65, 0, 0), (0, 11, 310, 12, 66, 0, 0), (0, 11, 313, 12, 67, 0, 0)]
def jT_32 : List jRc := [(0, 11, 316, 12, 68, 0, 0), (0, 11, 319, 12, 69, 0, 0), (0, 11, 322, 12, 70, 0, 0), (0, 11, 325, 12, 71, 0, 0), (0, 11, 328, 12, 72, 0, 0), (0, 11, 331, 12, 73, 0, 0), (0, 11, 334, 12, 74, 0, 0), (0, 11, 337, 12, 75, 0, 0), (0, 11, 340, 12, 76, 0, 0), (0, 11, 343, 12, 77, 0, 0), (0, 11, 346, 12, 78, 0, 0), (0, 11, 220, 12, 79, 0, 0), (0, 11, 198, 12, 80, 0, 0), (0, 11, 349, 12, 81, 0, 0), (0, 11, 201, 12, 82, 0, 0), (0, 11, 204, 12, 83, 0, 0), (0, 11, 207, 12, 84, 0, 0), (0, 11, 352, 12, 85, 0, 0), (0, 11, 371, 12, 86, 0, 0), (0, 11, 605, 12, 87, 0, 0), (0, 11, 610, 12, 88, 0, 0), (0, 11, 355, 12, 89, 0, 0), (0, 11, 626, 12, 90, 0, 0), (5, 15, 36, 230, 0, 0, 0), (10, 0, 0, 230, 0, 0, 0), (11, 0, 0, 230, 0, 0, 0), (9, 0, 0, 230, 0, 0, 0), (5, 11, 358, 231, 0, 0, 0), (10, 0, 0, 231, 0, 0, 0), (9, 0, 0, 231, 0, 0, 0), (5, 11, 387, 232, 0, 0, 0), (10, 0, 0, 232, 0, 0, 0), (9, 0, 0, 232, 0, 0, 0), (5, 11, 368, 233, 0, 0, 0), (10, 0, 0, 233, 0, 0, 0), (9, 0, 0, 233, 0, 0, 0), (5, 11, 361, 234, 0, 0, 0), (10, 0, 0, 234, 0, 0, 0), (9, 0, 0, 234, 0, 0, 0), (5, 11, 454, 235, 0, 0, 0)]
def jT_33 : List jRc := [(12, 0, 0, 235, 0, 0, 0), (9, 0, 0, 235, 0, 0, 0), (5, 11, 457, 236, 0, 0, 0), (10, 0, 0, 236, 0, 0, 0), (9, 0, 0, 236, 0, 0, 0), (5, 11, 460, 237, 0, 0, 0), (10, 0, 0, 237, 0, 0, 0), (9, 0, 0, 237, 0, 0, 0), (5, 11, 406, 238, 0, 0, 0), (10, 0, 0, 238, 0, 0, 0), (9, 0, 0, 238, 0, 0, 0), (5, 15, 41, 239, 0, 0, 0), (10, 0, 0, 239, 0, 0, 0), (11, 0, 0, 239, 0, 0, 0), (9, 0, 0, 239, 0, 0, 0), (5, 11, 463, 240, 0, 0, 0), (10, 0, 0, 240, 0, 0, 0), (9, 0, 0, 240, 0, 0, 0), (8, 11, 466, 0, 0, 0, 5), (5, 15, 45, 241, 0, 0, 0), (10, 0, 0, 241, 0, 0, 0), (11, 0, 0, 241, 0, 0, 0), (9, 0, 0, 241, 0, 0, 0), (5, 11, 403, 242, 0, 0, 0), (10, 0, 0, 242, 0, 0, 0), (9, 0, 0, 242, 0, 0, 0), (5, 11, 365, 243, 0, 0, 0), (10, 0, 0, 243, 0, 0, 0), (9, 0, 0, 243, 0, 0, 0), (5, 11, 397, 244, 0, 0, 0), (10, 0, 0, 244, 0, 0, 0), (9, 0, 0, 244, 0, 0, 0), (5, 11, 390, 245, 0, 0, 0), (10, 0, 0, 245, 0, 0, 0), (9, 0, 0, 245, 0, 0, 0), (5, 11, 393, 246, 0, 0, 0), (10, 0, 0, 246, 0, 0, 0), (9, 0, 0, 246, 0, 0, 0), (5, 11, 374, 247, 0, 0, 0), (10, 0, 0, 247, 0, 0, 0)]
def jT_34 : List jRc := [(9, 0, 0, 247, 0, 0, 0), (5, 11, 378, 248, 0, 0, 0), (10, 0, 0, 248, 0, 0, 0), (9, 0, 0, 248, 0, 0, 0), (5, 11, 414, 249, 0, 0, 0), (10, 0, 0, 249, 0, 0, 0), (9, 0, 0, 249, 0, 0, 0), (5, 11, 382, 250, 0, 0, 0), (10, 0, 0, 250, 0, 0, 0), (9, 0, 0, 250, 0, 0, 0), (5, 11, 594, 251, 0, 0, 0), (12, 0, 0, 251, 0, 0, 0), (9, 0, 0, 251, 0, 0, 0), (8, 11, 473, 0, 0, 0, 1000000), (8, 11, 592, 0, 0, 0, (-1000000)), (5, 11, 598, 252, 0, 0, 0), (12, 0, 0, 252, 0, 0, 0), (9, 0, 0, 252, 0, 0, 0), (8, 11, 385, 0, 0, 0, 999), (5, 15, 49, 253, 0, 0, 0), (10, 0, 0, 253, 0, 0, 0), (11, 0, 0, 253, 0, 0, 0), (9, 0, 0, 253, 0, 0, 0), (5, 11, 468, 254, 0, 0, 0), (10, 0, 0, 254, 0, 0, 0), (9, 0, 0, 254, 0, 0, 0), (5, 15, 53, 255, 0, 0, 0), (10, 0, 0, 255, 0, 0, 0), (11, 0, 0, 255, 0, 0, 0), (9, 0, 0, 255, 0, 0, 0), (8, 11, 471, 0, 0, 0, 32), (5, 11, 411, 256, 0, 0, 0), (10, 0, 0, 256, 0, 0, 0), (9, 0, 0, 256, 0, 0, 0), (8, 11, 409, 0, 0, 0, 10), (5, 15, 57, 257, 0, 0, 0), (10, 0, 0, 257, 0, 0, 0), (11, 0, 0, 257, 0, 0, 0), (9, 0, 0, 257, 0, 0, 0), (5, 15, 61, 258, 0, 0, 0)]
def jT_35 : List jRc := [(10, 0, 0, 258, 0, 0, 0), (11, 0, 0, 258, 0, 0, 0), (9, 0, 0, 258, 0, 0, 0), (8, 11, 475, 0, 0, 0, 8), (8, 11, 417, 0, 0, 0, 100), (5, 15, 65, 259, 0, 0, 0), (10, 0, 0, 259, 0, 0, 0), (11, 0, 0, 259, 0, 0, 0), (9, 0, 0, 259, 0, 0, 0), (5, 11, 477, 260, 0, 0, 0), (10, 0, 0, 260, 0, 0, 0), (9, 0, 0, 260, 0, 0, 0), (5, 15, 70, 261, 0, 0, 0), (10, 0, 0, 261, 0, 0, 0), (11, 0, 0, 261, 0, 0, 0), (9, 0, 0, 261, 0, 0, 0), (5, 11, 442, 262, 0, 0, 0), (10, 0, 0, 262, 0, 0, 0), (9, 0, 0, 262, 0, 0, 0), (5, 11, 419, 263, 0, 0, 0), (10, 0, 0, 263, 0, 0, 0), (9, 0, 0, 263, 0, 0, 0), (5, 11, 422, 264, 0, 0, 0), (10, 0, 0, 264, 0, 0, 0), (9, 0, 0, 264, 0, 0, 0), (5, 11, 425, 265, 0, 0, 0), (12, 0, 0, 265, 0, 0, 0), (9, 0, 0, 265, 0, 0, 0), (8, 11, 480, 0, 0, 0, (-1000000000000000)), (5, 15, 75, 266, 0, 0, 0), (10, 0, 0, 266, 0, 0, 0), (11, 0, 0, 266, 0, 0, 0), (9, 0, 0, 266, 0, 0, 0), (5, 11, 451, 267, 0, 0, 0), (10, 0, 0, 267, 0, 0, 0), (9, 0, 0, 267, 0, 0, 0), (5, 11, 429, 268, 0, 0, 0), (10, 0, 0, 268, 0, 0, 0), (9, 0, 0, 268, 0, 0, 0), (5, 11, 432, 269, 0, 0, 0)]
def jT_36 : List jRc := [(10, 0, 0, 269, 0, 0, 0), (9, 0, 0, 269, 0, 0, 0), (5, 11, 448, 270, 0, 0, 0), (10, 0, 0, 270, 0, 0, 0), (9, 0, 0, 270, 0, 0, 0), (5, 11, 436, 271, 0, 0, 0), (10, 0, 0, 271, 0, 0, 0), (9, 0, 0, 271, 0, 0, 0), (5, 11, 439, 272, 0, 0, 0), (10, 0, 0, 272, 0, 0, 0), (9, 0, 0, 272, 0, 0, 0), (5, 11, 445, 273, 0, 0, 0), (10, 0, 0, 273, 0, 0, 0), (9, 0, 0, 273, 0, 0, 0), (5, 15, 79, 274, 0, 0, 0), (10, 0, 0, 274, 0, 0, 0), (11, 0, 0, 274, 0, 0, 0), (9, 0, 0, 274, 0, 0, 0), (5, 15, 83, 275, 0, 0, 0), (10, 0, 0, 275, 0, 0, 0), (11, 0, 0, 275, 0, 0, 0), (9, 0, 0, 275, 0, 0, 0), (5, 11, 482, 276, 0, 0, 0), (10, 0, 0, 276, 0, 0, 0), (9, 0, 0, 276, 0, 0, 0), (5, 15, 87, 277, 0, 0, 0), (10, 0, 0, 277, 0, 0, 0), (11, 0, 0, 277, 0, 0, 0), (9, 0, 0, 277, 0, 0, 0), (8, 11, 485, 0, 0, 0, 2), (5, 11, 487, 278, 0, 0, 0), (10, 0, 0, 278, 0, 0, 0), (9, 0, 0, 278, 0, 0, 0), (5, 11, 490, 279, 0, 0, 0), (10, 0, 0, 279, 0, 0, 0), (9, 0, 0, 279, 0, 0, 0), (5, 11, 493, 280, 0, 0, 0), (10, 0, 0, 280, 0, 0, 0), (9, 0, 0, 280, 0, 0, 0), (5, 15, 91, 281, 0, 0, 0)]
def jT_37 : List jRc := [(10, 0, 0, 281, 0, 0, 0), (11, 0, 0, 281, 0, 0, 0), (9, 0, 0, 281, 0, 0, 0), (5, 15, 95, 282, 0, 0, 0), (10, 0, 0, 282, 0, 0, 0), (11, 0, 0, 282, 0, 0, 0), (9, 0, 0, 282, 0, 0, 0), (5, 11, 496, 283, 0, 0, 0), (10, 0, 0, 283, 0, 0, 0), (9, 0, 0, 283, 0, 0, 0), (5, 15, 99, 284, 0, 0, 0), (10, 0, 0, 284, 0, 0, 0), (11, 0, 0, 284, 0, 0, 0), (9, 0, 0, 284, 0, 0, 0), (5, 11, 499, 285, 0, 0, 0), (10, 0, 0, 285, 0, 0, 0), (9, 0, 0, 285, 0, 0, 0), (5, 15, 103, 286, 0, 0, 0), (10, 0, 0, 286, 0, 0, 0), (11, 0, 0, 286, 0, 0, 0), (9, 0, 0, 286, 0, 0, 0), (5, 11, 502, 287, 0, 0, 0), (10, 0, 0, 287, 0, 0, 0), (9, 0, 0, 287, 0, 0, 0), (5, 15, 107, 288, 0, 0, 0), (10, 0, 0, 288, 0, 0, 0), (11, 0, 0, 288, 0, 0, 0), (9, 0, 0, 288, 0, 0, 0), (5, 11, 505, 289, 0, 0, 0), (10, 0, 0, 289, 0, 0, 0), (9, 0, 0, 289, 0, 0, 0), (5, 15, 111, 290, 0, 0, 0), (10, 0, 0, 290, 0, 0, 0), (11, 0, 0, 290, 0, 0, 0), (9, 0, 0, 290, 0, 0, 0), (5, 11, 508, 291, 0, 0, 0), (10, 0, 0, 291, 0, 0, 0), (9, 0, 0, 291, 0, 0, 0), (7, 11, 511, 0, 0, 500000, 0), (5, 15, 116, 292, 0, 0, 0)]
def jT_38 : List jRc := [(10, 0, 0, 292, 0, 0, 0), (11, 0, 0, 292, 0, 0, 0), (9, 0, 0, 292, 0, 0, 0), (8, 11, 512, 0, 0, 0, 792), (5, 15, 138, 293, 0, 0, 0), (10, 0, 0, 293, 0, 0, 0), (11, 0, 0, 293, 0, 0, 0), (9, 0, 0, 293, 0, 0, 0), (5, 15, 120, 294, 0, 0, 0), (10, 0, 0, 294, 0, 0, 0), (11, 0, 0, 294, 0, 0, 0), (9, 0, 0, 294, 0, 0, 0), (5, 11, 517, 295, 0, 0, 0), (10, 0, 0, 295, 0, 0, 0), (9, 0, 0, 295, 0, 0, 0), (5, 15, 125, 296, 0, 0, 0), (10, 0, 0, 296, 0, 0, 0), (11, 0, 0, 296, 0, 0, 0), (9, 0, 0, 296, 0, 0, 0), (8, 11, 520, 0, 0, 0, 4), (5, 15, 129, 297, 0, 0, 0), (10, 0, 0, 297, 0, 0, 0), (11, 0, 0, 297, 0, 0, 0), (9, 0, 0, 297, 0, 0, 0), (5, 11, 524, 298, 0, 0, 0), (10, 0, 0, 298, 0, 0, 0), (9, 0, 0, 298, 0, 0, 0), (8, 11, 522, 0, 0, 0, 99), (5, 15, 142, 299, 0, 0, 0), (10, 0, 0, 299, 0, 0, 0), (11, 0, 0, 299, 0, 0, 0), (9, 0, 0, 299, 0, 0, 0), (5, 15, 133, 300, 0, 0, 0), (10, 0, 0, 300, 0, 0, 0), (11, 0, 0, 300, 0, 0, 0), (9, 0, 0, 300, 0, 0, 0), (5, 11, 535, 301, 0, 0, 0), (10, 0, 0, 301, 0, 0, 0), (9, 0, 0, 301, 0, 0, 0), (8, 11, 527, 0, 0, 0, 1103515245)]
def jT_39 : List jRc := [(8, 11, 529, 0, 0, 0, 12345), (8, 11, 531, 0, 0, 0, 2147483648), (8, 11, 533, 0, 0, 0, 64), (5, 15, 146, 302, 0, 0, 0), (10, 0, 0, 302, 0, 0, 0), (11, 0, 0, 302, 0, 0, 0), (9, 0, 0, 302, 0, 0, 0), (5, 11, 613, 303, 0, 0, 0), (10, 0, 0, 303, 0, 0, 0), (9, 0, 0, 303, 0, 0, 0), (5, 11, 616, 304, 0, 0, 0), (10, 0, 0, 304, 0, 0, 0), (9, 0, 0, 304, 0, 0, 0), (5, 11, 580, 305, 0, 0, 0), (10, 0, 0, 305, 0, 0, 0), (9, 0, 0, 305, 0, 0, 0), (5, 11, 583, 306, 0, 0, 0), (10, 0, 0, 306, 0, 0, 0), (9, 0, 0, 306, 0, 0, 0), (5, 11, 586, 307, 0, 0, 0), (10, 0, 0, 307, 0, 0, 0), (9, 0, 0, 307, 0, 0, 0), (5, 11, 589, 308, 0, 0, 0), (10, 0, 0, 308, 0, 0, 0), (9, 0, 0, 308, 0, 0, 0), (8, 11, 608, 0, 0, 0, (-1)), (5, 11, 619, 309, 0, 0, 0), (10, 0, 0, 309, 0, 0, 0), (9, 0, 0, 309, 0, 0, 0), (5, 11, 601, 310, 0, 0, 0), (10, 0, 0, 310, 0, 0, 0), (9, 0, 0, 310, 0, 0, 0), (5, 11, 622, 311, 0, 0, 0), (10, 0, 0, 311, 0, 0, 0), (9, 0, 0, 311, 0, 0, 0), (5, 15, 150, 312, 0, 0, 0), (10, 0, 0, 312, 0, 0, 0), (11, 0, 0, 312, 0, 0, 0), (9, 0, 0, 312, 0, 0, 0), (5, 11, 632, 313, 0, 0, 0)]
def jT_40 : List jRc := [(10, 0, 0, 313, 0, 0, 0), (9, 0, 0, 313, 0, 0, 0), (5, 11, 629, 314, 0, 0, 0), (10, 0, 0, 314, 0, 0, 0), (9, 0, 0, 314, 0, 0, 0), (7, 11, 635, 0, 0, 65535, 0), (5, 11, 636, 315, 0, 0, 0), (12, 0, 0, 315, 0, 0, 0), (9, 0, 0, 315, 0, 0, 0), (5, 15, 154, 316, 0, 0, 0), (10, 0, 0, 316, 0, 0, 0), (11, 0, 0, 316, 0, 0, 0), (9, 0, 0, 316, 0, 0, 0), (5, 15, 158, 317, 0, 0, 0), (10, 0, 0, 317, 0, 0, 0), (11, 0, 0, 317, 0, 0, 0), (9, 0, 0, 317, 0, 0, 0), (5, 11, 646, 318, 0, 0, 0), (10, 0, 0, 318, 0, 0, 0), (9, 0, 0, 318, 0, 0, 0), (5, 11, 640, 319, 0, 0, 0), (10, 0, 0, 319, 0, 0, 0), (9, 0, 0, 319, 0, 0, 0), (5, 11, 643, 320, 0, 0, 0), (10, 0, 0, 320, 0, 0, 0), (9, 0, 0, 320, 0, 0, 0), (5, 15, 162, 321, 0, 0, 0), (10, 0, 0, 321, 0, 0, 0), (11, 0, 0, 321, 0, 0, 0), (9, 0, 0, 321, 0, 0, 0), (1, 2, 41, 0, 0, 0, 0), (1, 12, 134, 0, 1, 0, 0), (1, 12, 130, 0, 0, 0, 0)]
def jT : List (List jRc) := [jT_0, jT_1, jT_2, jT_3, jT_4, jT_5, jT_6, jT_7, jT_8, jT_9, jT_10, jT_11, jT_12, jT_13, jT_14, jT_15, jT_16, jT_17, jT_18, jT_19, jT_20, jT_21, jT_22, jT_23, jT_24, jT_25, jT_26, jT_27, jT_28, jT_29, jT_30, jT_31, jT_32, jT_33, jT_34, jT_35, jT_36, jT_37, jT_38, jT_39, jT_40]
set_option maxRecDepth 20000 in
theorem jTr_0 : ∀ r ∈ jT_0, jwd (jprog.map jsig) r ∈ lw_tbl := List.forall_mem_cons.mpr ⟨js_0 (List.mem_of_getElem? (i := 0) rfl),
  List.forall_mem_cons.mpr ⟨js_0 (List.mem_of_getElem? (i := 1) rfl),
  List.forall_mem_cons.mpr ⟨js_0 (List.mem_of_getElem? (i := 2) rfl),
  List.forall_mem_cons.mpr ⟨js_0 (List.mem_of_getElem? (i := 3) rfl),
  List.forall_mem_cons.mpr ⟨js_0 (List.mem_of_getElem? (i := 4) rfl),
  List.forall_mem_cons.mpr ⟨js_0 (List.mem_of_getElem? (i := 5) rfl),
  List.forall_mem_cons.mpr ⟨js_0 (List.mem_of_getElem? (i := 6) rfl),
  List.forall_mem_cons.mpr ⟨js_0 (List.mem_of_getElem? (i := 7) rfl),
  List.forall_mem_cons.mpr ⟨js_0 (List.mem_of_getElem? (i := 8) rfl),
  List.forall_mem_cons.mpr ⟨js_0 (List.mem_of_getElem? (i := 9) rfl),
  List.forall_mem_cons.mpr ⟨js_0 (List.mem_of_getElem? (i := 10) rfl),
  List.forall_mem_cons.mpr ⟨js_0 (List.mem_of_getElem? (i := 11) rfl),
  List.forall_mem_cons.mpr ⟨js_0 (List.mem_of_getElem? (i := 12) rfl),
  List.forall_mem_cons.mpr ⟨js_0 (List.mem_of_getElem? (i := 13) rfl),
  List.forall_mem_cons.mpr ⟨js_0 (List.mem_of_getElem? (i := 14) rfl),
  List.forall_mem_cons.mpr ⟨js_0 (List.mem_of_getElem? (i := 15) rfl),
  List.forall_mem_cons.mpr ⟨js_0 (List.mem_of_getElem? (i := 16) rfl),
  List.forall_mem_cons.mpr ⟨js_0 (List.mem_of_getElem? (i := 17) rfl),
  List.forall_mem_cons.mpr ⟨js_0 (List.mem_of_getElem? (i := 18) rfl),
  List.forall_mem_cons.mpr ⟨js_0 (List.mem_of_getElem? (i := 19) rfl),
  List.forall_mem_cons.mpr ⟨js_0 (List.mem_of_getElem? (i := 20) rfl),
  List.forall_mem_cons.mpr ⟨js_0 (List.mem_of_getElem? (i := 21) rfl),
  List.forall_mem_cons.mpr ⟨js_0 (List.mem_of_getElem? (i := 22) rfl),
  List.forall_mem_cons.mpr ⟨js_0 (List.mem_of_getElem? (i := 23) rfl),
  List.forall_mem_cons.mpr ⟨js_0 (List.mem_of_getElem? (i := 24) rfl),
  List.forall_mem_cons.mpr ⟨js_0 (List.mem_of_getElem? (i := 25) rfl),
  List.forall_mem_cons.mpr ⟨js_0 (List.mem_of_getElem? (i := 26) rfl),
  List.forall_mem_cons.mpr ⟨js_0 (List.mem_of_getElem? (i := 27) rfl),
  List.forall_mem_cons.mpr ⟨js_0 (List.mem_of_getElem? (i := 28) rfl),
  List.forall_mem_cons.mpr ⟨js_0 (List.mem_of_getElem? (i := 29) rfl),
  List.forall_mem_cons.mpr ⟨js_0 (List.mem_of_getElem? (i := 30) rfl),
  List.forall_mem_cons.mpr ⟨js_0 (List.mem_of_getElem? (i := 31) rfl),
  List.forall_mem_cons.mpr ⟨js_0 (List.mem_of_getElem? (i := 32) rfl),
  List.forall_mem_cons.mpr ⟨js_0 (List.mem_of_getElem? (i := 33) rfl),
  List.forall_mem_cons.mpr ⟨js_0 (List.mem_of_getElem? (i := 34) rfl),
  List.forall_mem_cons.mpr ⟨js_0 (List.mem_of_getElem? (i := 35) rfl),
  List.forall_mem_cons.mpr ⟨js_0 (List.mem_of_getElem? (i := 36) rfl),
  List.forall_mem_cons.mpr ⟨js_0 (List.mem_of_getElem? (i := 37) rfl),
  List.forall_mem_cons.mpr ⟨js_0 (List.mem_of_getElem? (i := 38) rfl),
  List.forall_mem_cons.mpr ⟨js_0 (List.mem_of_getElem? (i := 39) rfl),
  fun _ h => absurd h List.not_mem_nil⟩⟩⟩⟩⟩⟩⟩⟩⟩⟩⟩⟩⟩⟩⟩⟩⟩⟩⟩⟩⟩⟩⟩⟩⟩⟩⟩⟩⟩⟩⟩⟩⟩⟩⟩⟩⟩⟩⟩⟩
set_option maxRecDepth 20000 in
theorem jTr_1 : ∀ r ∈ jT_1, jwd (jprog.map jsig) r ∈ lw_tbl := List.forall_mem_cons.mpr ⟨js_0 (List.mem_of_getElem? (i := 40) rfl),
  List.forall_mem_cons.mpr ⟨js_0 (List.mem_of_getElem? (i := 41) rfl),
  List.forall_mem_cons.mpr ⟨js_0 (List.mem_of_getElem? (i := 42) rfl),
  List.forall_mem_cons.mpr ⟨js_0 (List.mem_of_getElem? (i := 43) rfl),
  List.forall_mem_cons.mpr ⟨js_0 (List.mem_of_getElem? (i := 44) rfl),
  List.forall_mem_cons.mpr ⟨js_0 (List.mem_of_getElem? (i := 45) rfl),
  List.forall_mem_cons.mpr ⟨js_0 (List.mem_of_getElem? (i := 46) rfl),
  List.forall_mem_cons.mpr ⟨js_0 (List.mem_of_getElem? (i := 47) rfl),
  List.forall_mem_cons.mpr ⟨js_0 (List.mem_of_getElem? (i := 48) rfl),
  List.forall_mem_cons.mpr ⟨js_0 (List.mem_of_getElem? (i := 49) rfl),
  List.forall_mem_cons.mpr ⟨js_0 (List.mem_of_getElem? (i := 50) rfl),
  List.forall_mem_cons.mpr ⟨js_0 (List.mem_of_getElem? (i := 51) rfl),
  List.forall_mem_cons.mpr ⟨js_0 (List.mem_of_getElem? (i := 52) rfl),
  List.forall_mem_cons.mpr ⟨js_0 (List.mem_of_getElem? (i := 53) rfl),
  List.forall_mem_cons.mpr ⟨js_0 (List.mem_of_getElem? (i := 54) rfl),
  List.forall_mem_cons.mpr ⟨js_0 (List.mem_of_getElem? (i := 55) rfl),
  List.forall_mem_cons.mpr ⟨js_0 (List.mem_of_getElem? (i := 56) rfl),
  List.forall_mem_cons.mpr ⟨js_0 (List.mem_of_getElem? (i := 57) rfl),
  List.forall_mem_cons.mpr ⟨js_0 (List.mem_of_getElem? (i := 58) rfl),
  List.forall_mem_cons.mpr ⟨js_0 (List.mem_of_getElem? (i := 59) rfl),
  List.forall_mem_cons.mpr ⟨js_0 (List.mem_of_getElem? (i := 60) rfl),
  List.forall_mem_cons.mpr ⟨js_0 (List.mem_of_getElem? (i := 61) rfl),
  List.forall_mem_cons.mpr ⟨js_0 (List.mem_of_getElem? (i := 62) rfl),
  List.forall_mem_cons.mpr ⟨js_0 (List.mem_of_getElem? (i := 63) rfl),
  List.forall_mem_cons.mpr ⟨js_0 (List.mem_of_getElem? (i := 64) rfl),
  List.forall_mem_cons.mpr ⟨js_0 (List.mem_of_getElem? (i := 65) rfl),
  List.forall_mem_cons.mpr ⟨js_0 (List.mem_of_getElem? (i := 66) rfl),
  List.forall_mem_cons.mpr ⟨js_0 (List.mem_of_getElem? (i := 67) rfl),
  List.forall_mem_cons.mpr ⟨js_0 (List.mem_of_getElem? (i := 68) rfl),
  List.forall_mem_cons.mpr ⟨js_0 (List.mem_of_getElem? (i := 69) rfl),
  List.forall_mem_cons.mpr ⟨js_0 (List.mem_of_getElem? (i := 70) rfl),
  List.forall_mem_cons.mpr ⟨js_0 (List.mem_of_getElem? (i := 71) rfl),
  List.forall_mem_cons.mpr ⟨js_0 (List.mem_of_getElem? (i := 72) rfl),
  List.forall_mem_cons.mpr ⟨js_0 (List.mem_of_getElem? (i := 73) rfl),
  List.forall_mem_cons.mpr ⟨js_0 (List.mem_of_getElem? (i := 74) rfl),
  List.forall_mem_cons.mpr ⟨js_0 (List.mem_of_getElem? (i := 75) rfl),
  List.forall_mem_cons.mpr ⟨js_0 (List.mem_of_getElem? (i := 76) rfl),
  List.forall_mem_cons.mpr ⟨js_0 (List.mem_of_getElem? (i := 77) rfl),
  List.forall_mem_cons.mpr ⟨js_0 (List.mem_of_getElem? (i := 78) rfl),
  List.forall_mem_cons.mpr ⟨js_0 (List.mem_of_getElem? (i := 79) rfl),
  fun _ h => absurd h List.not_mem_nil⟩⟩⟩⟩⟩⟩⟩⟩⟩⟩⟩⟩⟩⟩⟩⟩⟩⟩⟩⟩⟩⟩⟩⟩⟩⟩⟩⟩⟩⟩⟩⟩⟩⟩⟩⟩⟩⟩⟩⟩
set_option maxRecDepth 20000 in
theorem jTr_2 : ∀ r ∈ jT_2, jwd (jprog.map jsig) r ∈ lw_tbl := List.forall_mem_cons.mpr ⟨js_0 (List.mem_of_getElem? (i := 80) rfl),
  List.forall_mem_cons.mpr ⟨js_0 (List.mem_of_getElem? (i := 81) rfl),
  List.forall_mem_cons.mpr ⟨js_0 (List.mem_of_getElem? (i := 82) rfl),
  List.forall_mem_cons.mpr ⟨js_0 (List.mem_of_getElem? (i := 83) rfl),
  List.forall_mem_cons.mpr ⟨js_0 (List.mem_of_getElem? (i := 84) rfl),
  List.forall_mem_cons.mpr ⟨js_0 (List.mem_of_getElem? (i := 85) rfl),
  List.forall_mem_cons.mpr ⟨js_0 (List.mem_of_getElem? (i := 86) rfl),
  List.forall_mem_cons.mpr ⟨js_0 (List.mem_of_getElem? (i := 87) rfl),
  List.forall_mem_cons.mpr ⟨js_0 (List.mem_of_getElem? (i := 88) rfl),
  List.forall_mem_cons.mpr ⟨js_0 (List.mem_of_getElem? (i := 89) rfl),
  List.forall_mem_cons.mpr ⟨js_0 (List.mem_of_getElem? (i := 90) rfl),
  List.forall_mem_cons.mpr ⟨js_0 (List.mem_of_getElem? (i := 91) rfl),
  List.forall_mem_cons.mpr ⟨js_0 (List.mem_of_getElem? (i := 92) rfl),
  List.forall_mem_cons.mpr ⟨js_0 (List.mem_of_getElem? (i := 93) rfl),
  List.forall_mem_cons.mpr ⟨js_0 (List.mem_of_getElem? (i := 94) rfl),
  List.forall_mem_cons.mpr ⟨js_0 (List.mem_of_getElem? (i := 95) rfl),
  List.forall_mem_cons.mpr ⟨js_0 (List.mem_of_getElem? (i := 96) rfl),
  List.forall_mem_cons.mpr ⟨js_0 (List.mem_of_getElem? (i := 97) rfl),
  List.forall_mem_cons.mpr ⟨js_0 (List.mem_of_getElem? (i := 98) rfl),
  List.forall_mem_cons.mpr ⟨js_0 (List.mem_of_getElem? (i := 99) rfl),
  List.forall_mem_cons.mpr ⟨js_0 (List.mem_of_getElem? (i := 100) rfl),
  List.forall_mem_cons.mpr ⟨js_0 (List.mem_of_getElem? (i := 101) rfl),
  List.forall_mem_cons.mpr ⟨js_0 (List.mem_of_getElem? (i := 102) rfl),
  List.forall_mem_cons.mpr ⟨js_0 (List.mem_of_getElem? (i := 103) rfl),
  List.forall_mem_cons.mpr ⟨js_0 (List.mem_of_getElem? (i := 104) rfl),
  List.forall_mem_cons.mpr ⟨js_0 (List.mem_of_getElem? (i := 105) rfl),
  List.forall_mem_cons.mpr ⟨js_0 (List.mem_of_getElem? (i := 106) rfl),
  List.forall_mem_cons.mpr ⟨js_0 (List.mem_of_getElem? (i := 107) rfl),
  List.forall_mem_cons.mpr ⟨js_0 (List.mem_of_getElem? (i := 108) rfl),
  List.forall_mem_cons.mpr ⟨js_0 (List.mem_of_getElem? (i := 109) rfl),
  List.forall_mem_cons.mpr ⟨js_0 (List.mem_of_getElem? (i := 110) rfl),
  List.forall_mem_cons.mpr ⟨js_0 (List.mem_of_getElem? (i := 111) rfl),
  List.forall_mem_cons.mpr ⟨js_0 (List.mem_of_getElem? (i := 112) rfl),
  List.forall_mem_cons.mpr ⟨js_0 (List.mem_of_getElem? (i := 113) rfl),
  List.forall_mem_cons.mpr ⟨js_0 (List.mem_of_getElem? (i := 114) rfl),
  List.forall_mem_cons.mpr ⟨js_0 (List.mem_of_getElem? (i := 115) rfl),
  List.forall_mem_cons.mpr ⟨js_0 (List.mem_of_getElem? (i := 116) rfl),
  List.forall_mem_cons.mpr ⟨js_0 (List.mem_of_getElem? (i := 117) rfl),
  List.forall_mem_cons.mpr ⟨js_0 (List.mem_of_getElem? (i := 118) rfl),
  List.forall_mem_cons.mpr ⟨js_0 (List.mem_of_getElem? (i := 119) rfl),
  fun _ h => absurd h List.not_mem_nil⟩⟩⟩⟩⟩⟩⟩⟩⟩⟩⟩⟩⟩⟩⟩⟩⟩⟩⟩⟩⟩⟩⟩⟩⟩⟩⟩⟩⟩⟩⟩⟩⟩⟩⟩⟩⟩⟩⟩⟩
set_option maxRecDepth 20000 in
theorem jTr_3 : ∀ r ∈ jT_3, jwd (jprog.map jsig) r ∈ lw_tbl := List.forall_mem_cons.mpr ⟨js_1 (List.mem_of_getElem? (i := 1) rfl),
  List.forall_mem_cons.mpr ⟨js_1 (List.mem_of_getElem? (i := 2) rfl),
  List.forall_mem_cons.mpr ⟨js_1 (List.mem_of_getElem? (i := 3) rfl),
  List.forall_mem_cons.mpr ⟨js_1 (List.mem_of_getElem? (i := 4) rfl),
  List.forall_mem_cons.mpr ⟨js_1 (List.mem_of_getElem? (i := 5) rfl),
  List.forall_mem_cons.mpr ⟨js_1 (List.mem_of_getElem? (i := 6) rfl),
  List.forall_mem_cons.mpr ⟨js_1 (List.mem_of_getElem? (i := 7) rfl),
  List.forall_mem_cons.mpr ⟨js_1 (List.mem_of_getElem? (i := 8) rfl),
  List.forall_mem_cons.mpr ⟨js_1 (List.mem_of_getElem? (i := 9) rfl),
  List.forall_mem_cons.mpr ⟨js_1 (List.mem_of_getElem? (i := 10) rfl),
  List.forall_mem_cons.mpr ⟨js_1 (List.mem_of_getElem? (i := 11) rfl),
  List.forall_mem_cons.mpr ⟨js_1 (List.mem_of_getElem? (i := 12) rfl),
  List.forall_mem_cons.mpr ⟨js_1 (List.mem_of_getElem? (i := 13) rfl),
  List.forall_mem_cons.mpr ⟨js_1 (List.mem_of_getElem? (i := 15) rfl),
  List.forall_mem_cons.mpr ⟨js_1 (List.mem_of_getElem? (i := 16) rfl),
  List.forall_mem_cons.mpr ⟨js_1 (List.mem_of_getElem? (i := 17) rfl),
  List.forall_mem_cons.mpr ⟨js_1 (List.mem_of_getElem? (i := 19) rfl),
  List.forall_mem_cons.mpr ⟨js_1 (List.mem_of_getElem? (i := 20) rfl),
  List.forall_mem_cons.mpr ⟨js_1 (List.mem_of_getElem? (i := 21) rfl),
  List.forall_mem_cons.mpr ⟨js_1 (List.mem_of_getElem? (i := 22) rfl),
  List.forall_mem_cons.mpr ⟨js_1 (List.mem_of_getElem? (i := 25) rfl),
  List.forall_mem_cons.mpr ⟨js_1 (List.mem_of_getElem? (i := 27) rfl),
  List.forall_mem_cons.mpr ⟨js_1 (List.mem_of_getElem? (i := 28) rfl),
  List.forall_mem_cons.mpr ⟨js_1 (List.mem_of_getElem? (i := 29) rfl),
  List.forall_mem_cons.mpr ⟨js_1 (List.mem_of_getElem? (i := 30) rfl),
  List.forall_mem_cons.mpr ⟨js_1 (List.mem_of_getElem? (i := 31) rfl),
  List.forall_mem_cons.mpr ⟨js_1 (List.mem_of_getElem? (i := 32) rfl),
  List.forall_mem_cons.mpr ⟨js_1 (List.mem_of_getElem? (i := 33) rfl),
  List.forall_mem_cons.mpr ⟨js_1 (List.mem_of_getElem? (i := 34) rfl),
  List.forall_mem_cons.mpr ⟨js_1 (List.mem_of_getElem? (i := 35) rfl),
  List.forall_mem_cons.mpr ⟨js_1 (List.mem_of_getElem? (i := 42) rfl),
  List.forall_mem_cons.mpr ⟨js_1 (List.mem_of_getElem? (i := 43) rfl),
  List.forall_mem_cons.mpr ⟨js_1 (List.mem_of_getElem? (i := 44) rfl),
  List.forall_mem_cons.mpr ⟨js_1 (List.mem_of_getElem? (i := 45) rfl),
  List.forall_mem_cons.mpr ⟨js_1 (List.mem_of_getElem? (i := 47) rfl),
  List.forall_mem_cons.mpr ⟨js_1 (List.mem_of_getElem? (i := 48) rfl),
  List.forall_mem_cons.mpr ⟨js_1 (List.mem_of_getElem? (i := 49) rfl),
  List.forall_mem_cons.mpr ⟨js_1 (List.mem_of_getElem? (i := 50) rfl),
  List.forall_mem_cons.mpr ⟨js_1 (List.mem_of_getElem? (i := 51) rfl),
  List.forall_mem_cons.mpr ⟨js_1 (List.mem_of_getElem? (i := 52) rfl),
  fun _ h => absurd h List.not_mem_nil⟩⟩⟩⟩⟩⟩⟩⟩⟩⟩⟩⟩⟩⟩⟩⟩⟩⟩⟩⟩⟩⟩⟩⟩⟩⟩⟩⟩⟩⟩⟩⟩⟩⟩⟩⟩⟩⟩⟩⟩
set_option maxRecDepth 20000 in
theorem jTr_4 : ∀ r ∈ jT_4, jwd (jprog.map jsig) r ∈ lw_tbl := List.forall_mem_cons.mpr ⟨js_1 (List.mem_of_getElem? (i := 53) rfl),
  List.forall_mem_cons.mpr ⟨js_1 (List.mem_of_getElem? (i := 54) rfl),
  List.forall_mem_cons.mpr ⟨js_1 (List.mem_of_getElem? (i := 55) rfl),
  List.forall_mem_cons.mpr ⟨js_1 (List.mem_of_getElem? (i := 56) rfl),
  List.forall_mem_cons.mpr ⟨js_1 (List.mem_of_getElem? (i := 57) rfl),
  List.forall_mem_cons.mpr ⟨js_1 (List.mem_of_getElem? (i := 73) rfl),
  List.forall_mem_cons.mpr ⟨js_1 (List.mem_of_getElem? (i := 75) rfl),
  List.forall_mem_cons.mpr ⟨js_1 (List.mem_of_getElem? (i := 76) rfl),
  List.forall_mem_cons.mpr ⟨js_1 (List.mem_of_getElem? (i := 77) rfl),
  List.forall_mem_cons.mpr ⟨js_1 (List.mem_of_getElem? (i := 78) rfl),
  List.forall_mem_cons.mpr ⟨js_1 (List.mem_of_getElem? (i := 79) rfl),
  List.forall_mem_cons.mpr ⟨js_1 (List.mem_of_getElem? (i := 83) rfl),
  List.forall_mem_cons.mpr ⟨js_1 (List.mem_of_getElem? (i := 85) rfl),
  List.forall_mem_cons.mpr ⟨js_1 (List.mem_of_getElem? (i := 86) rfl),
  List.forall_mem_cons.mpr ⟨js_1 (List.mem_of_getElem? (i := 87) rfl),
  List.forall_mem_cons.mpr ⟨js_1 (List.mem_of_getElem? (i := 88) rfl),
  List.forall_mem_cons.mpr ⟨js_1 (List.mem_of_getElem? (i := 89) rfl),
  List.forall_mem_cons.mpr ⟨js_1 (List.mem_of_getElem? (i := 90) rfl),
  List.forall_mem_cons.mpr ⟨js_1 (List.mem_of_getElem? (i := 91) rfl),
  List.forall_mem_cons.mpr ⟨js_1 (List.mem_of_getElem? (i := 92) rfl),
  List.forall_mem_cons.mpr ⟨js_1 (List.mem_of_getElem? (i := 102) rfl),
  List.forall_mem_cons.mpr ⟨js_1 (List.mem_of_getElem? (i := 104) rfl),
  List.forall_mem_cons.mpr ⟨js_1 (List.mem_of_getElem? (i := 105) rfl),
  List.forall_mem_cons.mpr ⟨js_1 (List.mem_of_getElem? (i := 106) rfl),
  List.forall_mem_cons.mpr ⟨js_1 (List.mem_of_getElem? (i := 107) rfl),
  List.forall_mem_cons.mpr ⟨js_1 (List.mem_of_getElem? (i := 108) rfl),
  List.forall_mem_cons.mpr ⟨js_1 (List.mem_of_getElem? (i := 109) rfl),
  List.forall_mem_cons.mpr ⟨js_1 (List.mem_of_getElem? (i := 110) rfl),
  List.forall_mem_cons.mpr ⟨js_1 (List.mem_of_getElem? (i := 111) rfl),
  List.forall_mem_cons.mpr ⟨js_1 (List.mem_of_getElem? (i := 112) rfl),
  List.forall_mem_cons.mpr ⟨js_1 (List.mem_of_getElem? (i := 113) rfl),
  List.forall_mem_cons.mpr ⟨js_1 (List.mem_of_getElem? (i := 114) rfl),
  List.forall_mem_cons.mpr ⟨js_1 (List.mem_of_getElem? (i := 115) rfl),
  List.forall_mem_cons.mpr ⟨js_1 (List.mem_of_getElem? (i := 116) rfl),
  List.forall_mem_cons.mpr ⟨js_1 (List.mem_of_getElem? (i := 117) rfl),
  List.forall_mem_cons.mpr ⟨js_1 (List.mem_of_getElem? (i := 127) rfl),
  List.forall_mem_cons.mpr ⟨js_1 (List.mem_of_getElem? (i := 129) rfl),
  List.forall_mem_cons.mpr ⟨js_1 (List.mem_of_getElem? (i := 130) rfl),
  List.forall_mem_cons.mpr ⟨js_1 (List.mem_of_getElem? (i := 131) rfl),
  List.forall_mem_cons.mpr ⟨js_1 (List.mem_of_getElem? (i := 132) rfl),
  fun _ h => absurd h List.not_mem_nil⟩⟩⟩⟩⟩⟩⟩⟩⟩⟩⟩⟩⟩⟩⟩⟩⟩⟩⟩⟩⟩⟩⟩⟩⟩⟩⟩⟩⟩⟩⟩⟩⟩⟩⟩⟩⟩⟩⟩⟩
set_option maxRecDepth 20000 in
theorem jTr_5 : ∀ r ∈ jT_5, jwd (jprog.map jsig) r ∈ lw_tbl := List.forall_mem_cons.mpr ⟨js_1 (List.mem_of_getElem? (i := 133) rfl),
  List.forall_mem_cons.mpr ⟨js_1 (List.mem_of_getElem? (i := 135) rfl),
  List.forall_mem_cons.mpr ⟨js_1 (List.mem_of_getElem? (i := 136) rfl),
  List.forall_mem_cons.mpr ⟨js_1 (List.mem_of_getElem? (i := 137) rfl),
  List.forall_mem_cons.mpr ⟨js_1 (List.mem_of_getElem? (i := 143) rfl),
  List.forall_mem_cons.mpr ⟨js_1 (List.mem_of_getElem? (i := 145) rfl),
  List.forall_mem_cons.mpr ⟨js_1 (List.mem_of_getElem? (i := 146) rfl),
  List.forall_mem_cons.mpr ⟨js_1 (List.mem_of_getElem? (i := 147) rfl),
  List.forall_mem_cons.mpr ⟨js_1 (List.mem_of_getElem? (i := 148) rfl),
  List.forall_mem_cons.mpr ⟨js_1 (List.mem_of_getElem? (i := 149) rfl),
  List.forall_mem_cons.mpr ⟨js_1 (List.mem_of_getElem? (i := 151) rfl),
  List.forall_mem_cons.mpr ⟨js_1 (List.mem_of_getElem? (i := 152) rfl),
  List.forall_mem_cons.mpr ⟨js_1 (List.mem_of_getElem? (i := 153) rfl),
  List.forall_mem_cons.mpr ⟨js_1 (List.mem_of_getElem? (i := 154) rfl),
  List.forall_mem_cons.mpr ⟨js_1 (List.mem_of_getElem? (i := 155) rfl),
  List.forall_mem_cons.mpr ⟨js_1 (List.mem_of_getElem? (i := 156) rfl),
  List.forall_mem_cons.mpr ⟨js_1 (List.mem_of_getElem? (i := 163) rfl),
  List.forall_mem_cons.mpr ⟨js_1 (List.mem_of_getElem? (i := 165) rfl),
  List.forall_mem_cons.mpr ⟨js_1 (List.mem_of_getElem? (i := 166) rfl),
  List.forall_mem_cons.mpr ⟨js_1 (List.mem_of_getElem? (i := 167) rfl),
  List.forall_mem_cons.mpr ⟨js_1 (List.mem_of_getElem? (i := 168) rfl),
  List.forall_mem_cons.mpr ⟨js_1 (List.mem_of_getElem? (i := 169) rfl),
  List.forall_mem_cons.mpr ⟨js_1 (List.mem_of_getElem? (i := 170) rfl),
  List.forall_mem_cons.mpr ⟨js_1 (List.mem_of_getElem? (i := 171) rfl),
  List.forall_mem_cons.mpr ⟨js_1 (List.mem_of_getElem? (i := 172) rfl),
  List.forall_mem_cons.mpr ⟨js_1 (List.mem_of_getElem? (i := 173) rfl),
  List.forall_mem_cons.mpr ⟨js_1 (List.mem_of_getElem? (i := 174) rfl),
  List.forall_mem_cons.mpr ⟨js_1 (List.mem_of_getElem? (i := 175) rfl),
  List.forall_mem_cons.mpr ⟨js_1 (List.mem_of_getElem? (i := 176) rfl),
  List.forall_mem_cons.mpr ⟨js_1 (List.mem_of_getElem? (i := 177) rfl),
  List.forall_mem_cons.mpr ⟨js_1 (List.mem_of_getElem? (i := 178) rfl),
  List.forall_mem_cons.mpr ⟨js_1 (List.mem_of_getElem? (i := 179) rfl),
  List.forall_mem_cons.mpr ⟨js_1 (List.mem_of_getElem? (i := 180) rfl),
  List.forall_mem_cons.mpr ⟨js_1 (List.mem_of_getElem? (i := 181) rfl),
  List.forall_mem_cons.mpr ⟨js_1 (List.mem_of_getElem? (i := 182) rfl),
  List.forall_mem_cons.mpr ⟨js_1 (List.mem_of_getElem? (i := 183) rfl),
  List.forall_mem_cons.mpr ⟨js_1 (List.mem_of_getElem? (i := 184) rfl),
  List.forall_mem_cons.mpr ⟨js_1 (List.mem_of_getElem? (i := 185) rfl),
  List.forall_mem_cons.mpr ⟨js_1 (List.mem_of_getElem? (i := 186) rfl),
  List.forall_mem_cons.mpr ⟨js_1 (List.mem_of_getElem? (i := 187) rfl),
  fun _ h => absurd h List.not_mem_nil⟩⟩⟩⟩⟩⟩⟩⟩⟩⟩⟩⟩⟩⟩⟩⟩⟩⟩⟩⟩⟩⟩⟩⟩⟩⟩⟩⟩⟩⟩⟩⟩⟩⟩⟩⟩⟩⟩⟩⟩
set_option maxRecDepth 20000 in
theorem jTr_6 : ∀ r ∈ jT_6, jwd (jprog.map jsig) r ∈ lw_tbl := List.forall_mem_cons.mpr ⟨js_1 (List.mem_of_getElem? (i := 188) rfl),
  List.forall_mem_cons.mpr ⟨js_1 (List.mem_of_getElem? (i := 189) rfl),
  List.forall_mem_cons.mpr ⟨js_1 (List.mem_of_getElem? (i := 190) rfl),
  List.forall_mem_cons.mpr ⟨js_1 (List.mem_of_getElem? (i := 191) rfl),
  List.forall_mem_cons.mpr ⟨js_1 (List.mem_of_getElem? (i := 192) rfl),
  List.forall_mem_cons.mpr ⟨js_1 (List.mem_of_getElem? (i := 193) rfl),
  List.forall_mem_cons.mpr ⟨js_1 (List.mem_of_getElem? (i := 194) rfl),
  List.forall_mem_cons.mpr ⟨js_1 (List.mem_of_getElem? (i := 195) rfl),
  List.forall_mem_cons.mpr ⟨js_1 (List.mem_of_getElem? (i := 196) rfl),
  List.forall_mem_cons.mpr ⟨js_1 (List.mem_of_getElem? (i := 197) rfl),
  List.forall_mem_cons.mpr ⟨js_1 (List.mem_of_getElem? (i := 198) rfl),
  List.forall_mem_cons.mpr ⟨js_1 (List.mem_of_getElem? (i := 199) rfl),
  List.forall_mem_cons.mpr ⟨js_1 (List.mem_of_getElem? (i := 200) rfl),
  List.forall_mem_cons.mpr ⟨js_1 (List.mem_of_getElem? (i := 201) rfl),
  List.forall_mem_cons.mpr ⟨js_1 (List.mem_of_getElem? (i := 202) rfl),
  List.forall_mem_cons.mpr ⟨js_1 (List.mem_of_getElem? (i := 203) rfl),
  List.forall_mem_cons.mpr ⟨js_1 (List.mem_of_getElem? (i := 204) rfl),
  List.forall_mem_cons.mpr ⟨js_1 (List.mem_of_getElem? (i := 205) rfl),
  List.forall_mem_cons.mpr ⟨js_1 (List.mem_of_getElem? (i := 206) rfl),
  List.forall_mem_cons.mpr ⟨js_1 (List.mem_of_getElem? (i := 207) rfl),
  List.forall_mem_cons.mpr ⟨js_1 (List.mem_of_getElem? (i := 208) rfl),
  List.forall_mem_cons.mpr ⟨js_1 (List.mem_of_getElem? (i := 209) rfl),
  List.forall_mem_cons.mpr ⟨js_1 (List.mem_of_getElem? (i := 210) rfl),
  List.forall_mem_cons.mpr ⟨js_1 (List.mem_of_getElem? (i := 211) rfl),
  List.forall_mem_cons.mpr ⟨js_1 (List.mem_of_getElem? (i := 212) rfl),
  List.forall_mem_cons.mpr ⟨js_1 (List.mem_of_getElem? (i := 213) rfl),
  List.forall_mem_cons.mpr ⟨js_1 (List.mem_of_getElem? (i := 214) rfl),
  List.forall_mem_cons.mpr ⟨js_1 (List.mem_of_getElem? (i := 215) rfl),
  List.forall_mem_cons.mpr ⟨js_1 (List.mem_of_getElem? (i := 216) rfl),
  List.forall_mem_cons.mpr ⟨js_1 (List.mem_of_getElem? (i := 217) rfl),
  List.forall_mem_cons.mpr ⟨js_1 (List.mem_of_getElem? (i := 218) rfl),
  List.forall_mem_cons.mpr ⟨js_1 (List.mem_of_getElem? (i := 219) rfl),
  List.forall_mem_cons.mpr ⟨js_1 (List.mem_of_getElem? (i := 220) rfl),
  List.forall_mem_cons.mpr ⟨js_1 (List.mem_of_getElem? (i := 221) rfl),
  List.forall_mem_cons.mpr ⟨js_1 (List.mem_of_getElem? (i := 222) rfl),
  List.forall_mem_cons.mpr ⟨js_1 (List.mem_of_getElem? (i := 223) rfl),
  List.forall_mem_cons.mpr ⟨js_1 (List.mem_of_getElem? (i := 224) rfl),
  List.forall_mem_cons.mpr ⟨js_1 (List.mem_of_getElem? (i := 225) rfl),
  List.forall_mem_cons.mpr ⟨js_1 (List.mem_of_getElem? (i := 226) rfl),
  List.forall_mem_cons.mpr ⟨js_1 (List.mem_of_getElem? (i := 227) rfl),
  fun _ h => absurd h List.not_mem_nil⟩⟩⟩⟩⟩⟩⟩⟩⟩⟩⟩⟩⟩⟩⟩⟩⟩⟩⟩⟩⟩⟩⟩⟩⟩⟩⟩⟩⟩⟩⟩⟩⟩⟩⟩⟩⟩⟩⟩⟩
set_option maxRecDepth 20000 in
theorem jTr_7 : ∀ r ∈ jT_7, jwd (jprog.map jsig) r ∈ lw_tbl := List.forall_mem_cons.mpr ⟨js_1 (List.mem_of_getElem? (i := 228) rfl),
  List.forall_mem_cons.mpr ⟨js_1 (List.mem_of_getElem? (i := 229) rfl),
  List.forall_mem_cons.mpr ⟨js_1 (List.mem_of_getElem? (i := 230) rfl),
  List.forall_mem_cons.mpr ⟨js_1 (List.mem_of_getElem? (i := 231) rfl),
  List.forall_mem_cons.mpr ⟨js_1 (List.mem_of_getElem? (i := 232) rfl),
  List.forall_mem_cons.mpr ⟨js_2 (List.mem_of_getElem? (i := 32) rfl),
  List.forall_mem_cons.mpr ⟨js_2 (List.mem_of_getElem? (i := 33) rfl),
  List.forall_mem_cons.mpr ⟨js_2 (List.mem_of_getElem? (i := 34) rfl),
  List.forall_mem_cons.mpr ⟨js_2 (List.mem_of_getElem? (i := 35) rfl),
  List.forall_mem_cons.mpr ⟨js_2 (List.mem_of_getElem? (i := 36) rfl),
  List.forall_mem_cons.mpr ⟨js_2 (List.mem_of_getElem? (i := 48) rfl),
  List.forall_mem_cons.mpr ⟨js_2 (List.mem_of_getElem? (i := 50) rfl),
  List.forall_mem_cons.mpr ⟨js_2 (List.mem_of_getElem? (i := 51) rfl),
  List.forall_mem_cons.mpr ⟨js_2 (List.mem_of_getElem? (i := 52) rfl),
  List.forall_mem_cons.mpr ⟨js_2 (List.mem_of_getElem? (i := 53) rfl),
  List.forall_mem_cons.mpr ⟨js_2 (List.mem_of_getElem? (i := 54) rfl),
  List.forall_mem_cons.mpr ⟨js_2 (List.mem_of_getElem? (i := 55) rfl),
  List.forall_mem_cons.mpr ⟨js_2 (List.mem_of_getElem? (i := 56) rfl),
  List.forall_mem_cons.mpr ⟨js_2 (List.mem_of_getElem? (i := 57) rfl),
  List.forall_mem_cons.mpr ⟨js_2 (List.mem_of_getElem? (i := 58) rfl),
  List.forall_mem_cons.mpr ⟨js_2 (List.mem_of_getElem? (i := 59) rfl),
  List.forall_mem_cons.mpr ⟨js_2 (List.mem_of_getElem? (i := 73) rfl),
  List.forall_mem_cons.mpr ⟨js_2 (List.mem_of_getElem? (i := 74) rfl),
  List.forall_mem_cons.mpr ⟨js_2 (List.mem_of_getElem? (i := 75) rfl),
  List.forall_mem_cons.mpr ⟨js_2 (List.mem_of_getElem? (i := 76) rfl),
  List.forall_mem_cons.mpr ⟨js_2 (List.mem_of_getElem? (i := 77) rfl),
  List.forall_mem_cons.mpr ⟨js_2 (List.mem_of_getElem? (i := 78) rfl),
  List.forall_mem_cons.mpr ⟨js_2 (List.mem_of_getElem? (i := 79) rfl),
  List.forall_mem_cons.mpr ⟨js_2 (List.mem_of_getElem? (i := 80) rfl),
  List.forall_mem_cons.mpr ⟨js_2 (List.mem_of_getElem? (i := 81) rfl),
  List.forall_mem_cons.mpr ⟨js_2 (List.mem_of_getElem? (i := 82) rfl),
  List.forall_mem_cons.mpr ⟨js_2 (List.mem_of_getElem? (i := 83) rfl),
  List.forall_mem_cons.mpr ⟨js_2 (List.mem_of_getElem? (i := 84) rfl),
  List.forall_mem_cons.mpr ⟨js_2 (List.mem_of_getElem? (i := 85) rfl),
  List.forall_mem_cons.mpr ⟨js_2 (List.mem_of_getElem? (i := 86) rfl),
  List.forall_mem_cons.mpr ⟨js_2 (List.mem_of_getElem? (i := 87) rfl),
  List.forall_mem_cons.mpr ⟨js_2 (List.mem_of_getElem? (i := 88) rfl),
  List.forall_mem_cons.mpr ⟨js_2 (List.mem_of_getElem? (i := 89) rfl),
  List.forall_mem_cons.mpr ⟨js_2 (List.mem_of_getElem? (i := 90) rfl),
  List.forall_mem_cons.mpr ⟨js_2 (List.mem_of_getElem? (i := 124) rfl),
  fun _ h => absurd h List.not_mem_nil⟩⟩⟩⟩⟩⟩⟩⟩⟩⟩⟩⟩⟩⟩⟩⟩⟩⟩⟩⟩⟩⟩⟩⟩⟩⟩⟩⟩⟩⟩⟩⟩⟩⟩⟩⟩⟩⟩⟩⟩
set_option maxRecDepth 20000 in
theorem jTr_8 : ∀ r ∈ jT_8, jwd (jprog.map jsig) r ∈ lw_tbl := List.forall_mem_cons.mpr ⟨js_2 (List.mem_of_getElem? (i := 125) rfl),
  List.forall_mem_cons.mpr ⟨js_2 (List.mem_of_getElem? (i := 126) rfl),
  List.forall_mem_cons.mpr ⟨js_2 (List.mem_of_getElem? (i := 127) rfl),
  List.forall_mem_cons.mpr ⟨js_2 (List.mem_of_getElem? (i := 128) rfl),
  List.forall_mem_cons.mpr ⟨js_2 (List.mem_of_getElem? (i := 129) rfl),
  List.forall_mem_cons.mpr ⟨js_2 (List.mem_of_getElem? (i := 130) rfl),
  List.forall_mem_cons.mpr ⟨js_2 (List.mem_of_getElem? (i := 131) rfl),
  List.forall_mem_cons.mpr ⟨js_2 (List.mem_of_getElem? (i := 132) rfl),
  List.forall_mem_cons.mpr ⟨js_2 (List.mem_of_getElem? (i := 134) rfl),
  List.forall_mem_cons.mpr ⟨js_2 (List.mem_of_getElem? (i := 135) rfl),
  List.forall_mem_cons.mpr ⟨js_2 (List.mem_of_getElem? (i := 136) rfl),
  List.forall_mem_cons.mpr ⟨js_2 (List.mem_of_getElem? (i := 137) rfl),
  List.forall_mem_cons.mpr ⟨js_2 (List.mem_of_getElem? (i := 138) rfl),
  List.forall_mem_cons.mpr ⟨js_2 (List.mem_of_getElem? (i := 139) rfl),
  List.forall_mem_cons.mpr ⟨js_2 (List.mem_of_getElem? (i := 140) rfl),
  List.forall_mem_cons.mpr ⟨js_2 (List.mem_of_getElem? (i := 141) rfl),
  List.forall_mem_cons.mpr ⟨js_2 (List.mem_of_getElem? (i := 142) rfl),
  List.forall_mem_cons.mpr ⟨js_2 (List.mem_of_getElem? (i := 143) rfl),
  List.forall_mem_cons.mpr ⟨js_2 (List.mem_of_getElem? (i := 144) rfl),
  List.forall_mem_cons.mpr ⟨js_2 (List.mem_of_getElem? (i := 145) rfl),
  List.forall_mem_cons.mpr ⟨js_2 (List.mem_of_getElem? (i := 146) rfl),
  List.forall_mem_cons.mpr ⟨js_2 (List.mem_of_getElem? (i := 147) rfl),
  List.forall_mem_cons.mpr ⟨js_2 (List.mem_of_getElem? (i := 148) rfl),
  List.forall_mem_cons.mpr ⟨js_2 (List.mem_of_getElem? (i := 149) rfl),
  List.forall_mem_cons.mpr ⟨js_2 (List.mem_of_getElem? (i := 150) rfl),
  List.forall_mem_cons.mpr ⟨js_2 (List.mem_of_getElem? (i := 151) rfl),
  List.forall_mem_cons.mpr ⟨js_2 (List.mem_of_getElem? (i := 152) rfl),
  List.forall_mem_cons.mpr ⟨js_2 (List.mem_of_getElem? (i := 153) rfl),
  List.forall_mem_cons.mpr ⟨js_2 (List.mem_of_getElem? (i := 154) rfl),
  List.forall_mem_cons.mpr ⟨js_2 (List.mem_of_getElem? (i := 155) rfl),
  List.forall_mem_cons.mpr ⟨js_2 (List.mem_of_getElem? (i := 156) rfl),
  List.forall_mem_cons.mpr ⟨js_2 (List.mem_of_getElem? (i := 157) rfl),
  List.forall_mem_cons.mpr ⟨js_2 (List.mem_of_getElem? (i := 158) rfl),
  List.forall_mem_cons.mpr ⟨js_2 (List.mem_of_getElem? (i := 159) rfl),
  List.forall_mem_cons.mpr ⟨js_2 (List.mem_of_getElem? (i := 160) rfl),
  List.forall_mem_cons.mpr ⟨js_2 (List.mem_of_getElem? (i := 161) rfl),
  List.forall_mem_cons.mpr ⟨js_2 (List.mem_of_getElem? (i := 162) rfl),
  List.forall_mem_cons.mpr ⟨js_2 (List.mem_of_getElem? (i := 163) rfl),
  List.forall_mem_cons.mpr ⟨js_2 (List.mem_of_getElem? (i := 164) rfl),
  List.forall_mem_cons.mpr ⟨js_2 (List.mem_of_getElem? (i := 165) rfl),
  fun _ h => absurd h List.not_mem_nil⟩⟩⟩⟩⟩⟩⟩⟩⟩⟩⟩⟩⟩⟩⟩⟩⟩⟩⟩⟩⟩⟩⟩⟩⟩⟩⟩⟩⟩⟩⟩⟩⟩⟩⟩⟩⟩⟩⟩⟩
set_option maxRecDepth 20000 in
theorem jTr_9 : ∀ r ∈ jT_9, jwd (jprog.map jsig) r ∈ lw_tbl := List.forall_mem_cons.mpr ⟨js_2 (List.mem_of_getElem? (i := 166) rfl),
  List.forall_mem_cons.mpr ⟨js_2 (List.mem_of_getElem? (i := 167) rfl),
  List.forall_mem_cons.mpr ⟨js_2 (List.mem_of_getElem? (i := 168) rfl),
  List.forall_mem_cons.mpr ⟨js_2 (List.mem_of_getElem? (i := 169) rfl),
  List.forall_mem_cons.mpr ⟨js_2 (List.mem_of_getElem? (i := 170) rfl),
  List.forall_mem_cons.mpr ⟨js_2 (List.mem_of_getElem? (i := 171) rfl),
  List.forall_mem_cons.mpr ⟨js_2 (List.mem_of_getElem? (i := 172) rfl),
  List.forall_mem_cons.mpr ⟨js_2 (List.mem_of_getElem? (i := 173) rfl),
  List.forall_mem_cons.mpr ⟨js_2 (List.mem_of_getElem? (i := 174) rfl),
  List.forall_mem_cons.mpr ⟨js_2 (List.mem_of_getElem? (i := 175) rfl),
  List.forall_mem_cons.mpr ⟨js_2 (List.mem_of_getElem? (i := 176) rfl),
  List.forall_mem_cons.mpr ⟨js_2 (List.mem_of_getElem? (i := 177) rfl),
  List.forall_mem_cons.mpr ⟨js_2 (List.mem_of_getElem? (i := 178) rfl),
  List.forall_mem_cons.mpr ⟨js_2 (List.mem_of_getElem? (i := 179) rfl),
  List.forall_mem_cons.mpr ⟨js_2 (List.mem_of_getElem? (i := 180) rfl),
  List.forall_mem_cons.mpr ⟨js_2 (List.mem_of_getElem? (i := 181) rfl),
  List.forall_mem_cons.mpr ⟨js_2 (List.mem_of_getElem? (i := 182) rfl),
  List.forall_mem_cons.mpr ⟨js_2 (List.mem_of_getElem? (i := 183) rfl),
  List.forall_mem_cons.mpr ⟨js_2 (List.mem_of_getElem? (i := 184) rfl),
  List.forall_mem_cons.mpr ⟨js_2 (List.mem_of_getElem? (i := 185) rfl),
  List.forall_mem_cons.mpr ⟨js_2 (List.mem_of_getElem? (i := 186) rfl),
  List.forall_mem_cons.mpr ⟨js_2 (List.mem_of_getElem? (i := 187) rfl),
  List.forall_mem_cons.mpr ⟨js_2 (List.mem_of_getElem? (i := 188) rfl),
  List.forall_mem_cons.mpr ⟨js_2 (List.mem_of_getElem? (i := 189) rfl),
  List.forall_mem_cons.mpr ⟨js_2 (List.mem_of_getElem? (i := 190) rfl),
  List.forall_mem_cons.mpr ⟨js_2 (List.mem_of_getElem? (i := 191) rfl),
  List.forall_mem_cons.mpr ⟨js_2 (List.mem_of_getElem? (i := 192) rfl),
  List.forall_mem_cons.mpr ⟨js_2 (List.mem_of_getElem? (i := 193) rfl),
  List.forall_mem_cons.mpr ⟨js_2 (List.mem_of_getElem? (i := 194) rfl),
  List.forall_mem_cons.mpr ⟨js_2 (List.mem_of_getElem? (i := 195) rfl),
  List.forall_mem_cons.mpr ⟨js_2 (List.mem_of_getElem? (i := 196) rfl),
  List.forall_mem_cons.mpr ⟨js_2 (List.mem_of_getElem? (i := 197) rfl),
  List.forall_mem_cons.mpr ⟨js_2 (List.mem_of_getElem? (i := 198) rfl),
  List.forall_mem_cons.mpr ⟨js_2 (List.mem_of_getElem? (i := 199) rfl),
  List.forall_mem_cons.mpr ⟨js_2 (List.mem_of_getElem? (i := 200) rfl),
  List.forall_mem_cons.mpr ⟨js_2 (List.mem_of_getElem? (i := 202) rfl),
  List.forall_mem_cons.mpr ⟨js_2 (List.mem_of_getElem? (i := 203) rfl),
  List.forall_mem_cons.mpr ⟨js_2 (List.mem_of_getElem? (i := 204) rfl),
  List.forall_mem_cons.mpr ⟨js_2 (List.mem_of_getElem? (i := 206) rfl),
  List.forall_mem_cons.mpr ⟨js_2 (List.mem_of_getElem? (i := 207) rfl),
  fun _ h => absurd h List.not_mem_nil⟩⟩⟩⟩⟩⟩⟩⟩⟩⟩⟩⟩⟩⟩⟩⟩⟩⟩⟩⟩⟩⟩⟩⟩⟩⟩⟩⟩⟩⟩⟩⟩⟩⟩⟩⟩⟩⟩⟩⟩
set_option maxRecDepth 20000 in
theorem jTr_10 : ∀ r ∈ jT_10, jwd (jprog.map jsig) r ∈ lw_tbl := List.forall_mem_cons.mpr ⟨js_2 (List.mem_of_getElem? (i := 208) rfl),
  List.forall_mem_cons.mpr ⟨js_2 (List.mem_of_getElem? (i := 209) rfl),
  List.forall_mem_cons.mpr ⟨js_2 (List.mem_of_getElem? (i := 210) rfl),
  List.forall_mem_cons.mpr ⟨js_2 (List.mem_of_getElem? (i := 211) rfl),
  List.forall_mem_cons.mpr ⟨js_2 (List.mem_of_getElem? (i := 212) rfl),
  List.forall_mem_cons.mpr ⟨js_2 (List.mem_of_getElem? (i := 213) rfl),
  List.forall_mem_cons.mpr ⟨js_2 (List.mem_of_getElem? (i := 214) rfl),
  List.forall_mem_cons.mpr ⟨js_2 (List.mem_of_getElem? (i := 215) rfl),
  List.forall_mem_cons.mpr ⟨js_2 (List.mem_of_getElem? (i := 216) rfl),
  List.forall_mem_cons.mpr ⟨js_2 (List.mem_of_getElem? (i := 217) rfl),
  List.forall_mem_cons.mpr ⟨js_2 (List.mem_of_getElem? (i := 218) rfl),
  List.forall_mem_cons.mpr ⟨js_2 (List.mem_of_getElem? (i := 219) rfl),
  List.forall_mem_cons.mpr ⟨js_2 (List.mem_of_getElem? (i := 220) rfl),
  List.forall_mem_cons.mpr ⟨js_2 (List.mem_of_getElem? (i := 221) rfl),
  List.forall_mem_cons.mpr ⟨js_2 (List.mem_of_getElem? (i := 222) rfl),
  List.forall_mem_cons.mpr ⟨js_2 (List.mem_of_getElem? (i := 223) rfl),
  List.forall_mem_cons.mpr ⟨js_2 (List.mem_of_getElem? (i := 224) rfl),
  List.forall_mem_cons.mpr ⟨js_2 (List.mem_of_getElem? (i := 225) rfl),
  List.forall_mem_cons.mpr ⟨js_2 (List.mem_of_getElem? (i := 226) rfl),
  List.forall_mem_cons.mpr ⟨js_2 (List.mem_of_getElem? (i := 228) rfl),
  List.forall_mem_cons.mpr ⟨js_2 (List.mem_of_getElem? (i := 230) rfl),
  List.forall_mem_cons.mpr ⟨js_2 (List.mem_of_getElem? (i := 232) rfl),
  List.forall_mem_cons.mpr ⟨js_2 (List.mem_of_getElem? (i := 233) rfl),
  List.forall_mem_cons.mpr ⟨js_2 (List.mem_of_getElem? (i := 234) rfl),
  List.forall_mem_cons.mpr ⟨js_2 (List.mem_of_getElem? (i := 235) rfl),
  List.forall_mem_cons.mpr ⟨js_2 (List.mem_of_getElem? (i := 236) rfl),
  List.forall_mem_cons.mpr ⟨js_2 (List.mem_of_getElem? (i := 237) rfl),
  List.forall_mem_cons.mpr ⟨js_2 (List.mem_of_getElem? (i := 238) rfl),
  List.forall_mem_cons.mpr ⟨js_2 (List.mem_of_getElem? (i := 239) rfl),
  List.forall_mem_cons.mpr ⟨js_3 (List.mem_of_getElem? (i := 0) rfl),
  List.forall_mem_cons.mpr ⟨js_3 (List.mem_of_getElem? (i := 1) rfl),
  List.forall_mem_cons.mpr ⟨js_3 (List.mem_of_getElem? (i := 2) rfl),
  List.forall_mem_cons.mpr ⟨js_3 (List.mem_of_getElem? (i := 3) rfl),
  List.forall_mem_cons.mpr ⟨js_3 (List.mem_of_getElem? (i := 4) rfl),
  List.forall_mem_cons.mpr ⟨js_3 (List.mem_of_getElem? (i := 6) rfl),
  List.forall_mem_cons.mpr ⟨js_3 (List.mem_of_getElem? (i := 7) rfl),
  List.forall_mem_cons.mpr ⟨js_3 (List.mem_of_getElem? (i := 8) rfl),
  List.forall_mem_cons.mpr ⟨js_3 (List.mem_of_getElem? (i := 10) rfl),
  List.forall_mem_cons.mpr ⟨js_3 (List.mem_of_getElem? (i := 11) rfl),
  List.forall_mem_cons.mpr ⟨js_3 (List.mem_of_getElem? (i := 13) rfl),
  fun _ h => absurd h List.not_mem_nil⟩⟩⟩⟩⟩⟩⟩⟩⟩⟩⟩⟩⟩⟩⟩⟩⟩⟩⟩⟩⟩⟩⟩⟩⟩⟩⟩⟩⟩⟩⟩⟩⟩⟩⟩⟩⟩⟩⟩⟩
set_option maxRecDepth 20000 in
theorem jTr_11 : ∀ r ∈ jT_11, jwd (jprog.map jsig) r ∈ lw_tbl := List.forall_mem_cons.mpr ⟨js_3 (List.mem_of_getElem? (i := 14) rfl),
  List.forall_mem_cons.mpr ⟨js_3 (List.mem_of_getElem? (i := 15) rfl),
  List.forall_mem_cons.mpr ⟨js_3 (List.mem_of_getElem? (i := 16) rfl),
  List.forall_mem_cons.mpr ⟨js_3 (List.mem_of_getElem? (i := 17) rfl),
  List.forall_mem_cons.mpr ⟨js_3 (List.mem_of_getElem? (i := 18) rfl),
  List.forall_mem_cons.mpr ⟨js_3 (List.mem_of_getElem? (i := 19) rfl),
  List.forall_mem_cons.mpr ⟨js_3 (List.mem_of_getElem? (i := 20) rfl),
  List.forall_mem_cons.mpr ⟨js_3 (List.mem_of_getElem? (i := 21) rfl),
  List.forall_mem_cons.mpr ⟨js_3 (List.mem_of_getElem? (i := 22) rfl),
  List.forall_mem_cons.mpr ⟨js_3 (List.mem_of_getElem? (i := 23) rfl),
  List.forall_mem_cons.mpr ⟨js_3 (List.mem_of_getElem? (i := 24) rfl),
  List.forall_mem_cons.mpr ⟨js_3 (List.mem_of_getElem? (i := 25) rfl),
  List.forall_mem_cons.mpr ⟨js_3 (List.mem_of_getElem? (i := 26) rfl),
  List.forall_mem_cons.mpr ⟨js_3 (List.mem_of_getElem? (i := 27) rfl),
  List.forall_mem_cons.mpr ⟨js_3 (List.mem_of_getElem? (i := 28) rfl),
  List.forall_mem_cons.mpr ⟨js_3 (List.mem_of_getElem? (i := 29) rfl),
  List.forall_mem_cons.mpr ⟨js_3 (List.mem_of_getElem? (i := 30) rfl),
  List.forall_mem_cons.mpr ⟨js_3 (List.mem_of_getElem? (i := 31) rfl),
  List.forall_mem_cons.mpr ⟨js_3 (List.mem_of_getElem? (i := 33) rfl),
  List.forall_mem_cons.mpr ⟨js_3 (List.mem_of_getElem? (i := 34) rfl),
  List.forall_mem_cons.mpr ⟨js_3 (List.mem_of_getElem? (i := 35) rfl),
  List.forall_mem_cons.mpr ⟨js_3 (List.mem_of_getElem? (i := 36) rfl),
  List.forall_mem_cons.mpr ⟨js_3 (List.mem_of_getElem? (i := 37) rfl),
  List.forall_mem_cons.mpr ⟨js_3 (List.mem_of_getElem? (i := 38) rfl),
  List.forall_mem_cons.mpr ⟨js_3 (List.mem_of_getElem? (i := 40) rfl),
  List.forall_mem_cons.mpr ⟨js_3 (List.mem_of_getElem? (i := 42) rfl),
  List.forall_mem_cons.mpr ⟨js_3 (List.mem_of_getElem? (i := 44) rfl),
  List.forall_mem_cons.mpr ⟨js_3 (List.mem_of_getElem? (i := 46) rfl),
  List.forall_mem_cons.mpr ⟨js_3 (List.mem_of_getElem? (i := 48) rfl),
  List.forall_mem_cons.mpr ⟨js_3 (List.mem_of_getElem? (i := 50) rfl),
  List.forall_mem_cons.mpr ⟨js_3 (List.mem_of_getElem? (i := 51) rfl),
  List.forall_mem_cons.mpr ⟨js_3 (List.mem_of_getElem? (i := 52) rfl),
  List.forall_mem_cons.mpr ⟨js_3 (List.mem_of_getElem? (i := 54) rfl),
  List.forall_mem_cons.mpr ⟨js_3 (List.mem_of_getElem? (i := 55) rfl),
  List.forall_mem_cons.mpr ⟨js_3 (List.mem_of_getElem? (i := 56) rfl),
  List.forall_mem_cons.mpr ⟨js_3 (List.mem_of_getElem? (i := 58) rfl),
  List.forall_mem_cons.mpr ⟨js_3 (List.mem_of_getElem? (i := 60) rfl),
  List.forall_mem_cons.mpr ⟨js_3 (List.mem_of_getElem? (i := 61) rfl),
  List.forall_mem_cons.mpr ⟨js_3 (List.mem_of_getElem? (i := 62) rfl),
  List.forall_mem_cons.mpr ⟨js_3 (List.mem_of_getElem? (i := 63) rfl),
  fun _ h => absurd h List.not_mem_nil⟩⟩⟩⟩⟩⟩⟩⟩⟩⟩⟩⟩⟩⟩⟩⟩⟩⟩⟩⟩⟩⟩⟩⟩⟩⟩⟩⟩⟩⟩⟩⟩⟩⟩⟩⟩⟩⟩⟩⟩
set_option maxRecDepth 20000 in
theorem jTr_12 : ∀ r ∈ jT_12, jwd (jprog.map jsig) r ∈ lw_tbl := List.forall_mem_cons.mpr ⟨js_3 (List.mem_of_getElem? (i := 64) rfl),
  List.forall_mem_cons.mpr ⟨js_3 (List.mem_of_getElem? (i := 65) rfl),
  List.forall_mem_cons.mpr ⟨js_3 (List.mem_of_getElem? (i := 66) rfl),
  List.forall_mem_cons.mpr ⟨js_3 (List.mem_of_getElem? (i := 67) rfl),
  List.forall_mem_cons.mpr ⟨js_3 (List.mem_of_getElem? (i := 68) rfl),
  List.forall_mem_cons.mpr ⟨js_3 (List.mem_of_getElem? (i := 69) rfl),
  List.forall_mem_cons.mpr ⟨js_3 (List.mem_of_getElem? (i := 70) rfl),
  List.forall_mem_cons.mpr ⟨js_3 (List.mem_of_getElem? (i := 71) rfl),
  List.forall_mem_cons.mpr ⟨js_3 (List.mem_of_getElem? (i := 73) rfl),
  List.forall_mem_cons.mpr ⟨js_3 (List.mem_of_getElem? (i := 74) rfl),
  List.forall_mem_cons.mpr ⟨js_3 (List.mem_of_getElem? (i := 75) rfl),
  List.forall_mem_cons.mpr ⟨js_3 (List.mem_of_getElem? (i := 76) rfl),
  List.forall_mem_cons.mpr ⟨js_3 (List.mem_of_getElem? (i := 77) rfl),
  List.forall_mem_cons.mpr ⟨js_3 (List.mem_of_getElem? (i := 78) rfl),
  List.forall_mem_cons.mpr ⟨js_3 (List.mem_of_getElem? (i := 79) rfl),
  List.forall_mem_cons.mpr ⟨js_3 (List.mem_of_getElem? (i := 81) rfl),
  List.forall_mem_cons.mpr ⟨js_3 (List.mem_of_getElem? (i := 82) rfl),
  List.forall_mem_cons.mpr ⟨js_3 (List.mem_of_getElem? (i := 83) rfl),
  List.forall_mem_cons.mpr ⟨js_3 (List.mem_of_getElem? (i := 85) rfl),
  List.forall_mem_cons.mpr ⟨js_3 (List.mem_of_getElem? (i := 86) rfl),
  List.forall_mem_cons.mpr ⟨js_3 (List.mem_of_getElem? (i := 87) rfl),
  List.forall_mem_cons.mpr ⟨js_3 (List.mem_of_getElem? (i := 88) rfl),
  List.forall_mem_cons.mpr ⟨js_3 (List.mem_of_getElem? (i := 89) rfl),
  List.forall_mem_cons.mpr ⟨js_3 (List.mem_of_getElem? (i := 90) rfl),
  List.forall_mem_cons.mpr ⟨js_3 (List.mem_of_getElem? (i := 91) rfl),
  List.forall_mem_cons.mpr ⟨js_3 (List.mem_of_getElem? (i := 92) rfl),
  List.forall_mem_cons.mpr ⟨js_3 (List.mem_of_getElem? (i := 94) rfl),
  List.forall_mem_cons.mpr ⟨js_3 (List.mem_of_getElem? (i := 95) rfl),
  List.forall_mem_cons.mpr ⟨js_3 (List.mem_of_getElem? (i := 96) rfl),
  List.forall_mem_cons.mpr ⟨js_3 (List.mem_of_getElem? (i := 97) rfl),
  List.forall_mem_cons.mpr ⟨js_3 (List.mem_of_getElem? (i := 98) rfl),
  List.forall_mem_cons.mpr ⟨js_3 (List.mem_of_getElem? (i := 99) rfl),
  List.forall_mem_cons.mpr ⟨js_3 (List.mem_of_getElem? (i := 100) rfl),
  List.forall_mem_cons.mpr ⟨js_3 (List.mem_of_getElem? (i := 101) rfl),
  List.forall_mem_cons.mpr ⟨js_3 (List.mem_of_getElem? (i := 102) rfl),
  List.forall_mem_cons.mpr ⟨js_3 (List.mem_of_getElem? (i := 103) rfl),
  List.forall_mem_cons.mpr ⟨js_3 (List.mem_of_getElem? (i := 104) rfl),
  List.forall_mem_cons.mpr ⟨js_3 (List.mem_of_getElem? (i := 105) rfl),
  List.forall_mem_cons.mpr ⟨js_3 (List.mem_of_getElem? (i := 107) rfl),
  List.forall_mem_cons.mpr ⟨js_3 (List.mem_of_getElem? (i := 109) rfl),
  fun _ h => absurd h List.not_mem_nil⟩⟩⟩⟩⟩⟩⟩⟩⟩⟩⟩⟩⟩⟩⟩⟩⟩⟩⟩⟩⟩⟩⟩⟩⟩⟩⟩⟩⟩⟩⟩⟩⟩⟩⟩⟩⟩⟩⟩⟩
set_option maxRecDepth 20000 in
theorem jTr_13 : ∀ r ∈ jT_13, jwd (jprog.map jsig) r ∈ lw_tbl := List.forall_mem_cons.mpr ⟨js_3 (List.mem_of_getElem? (i := 110) rfl),
  List.forall_mem_cons.mpr ⟨js_3 (List.mem_of_getElem? (i := 111) rfl),
  List.forall_mem_cons.mpr ⟨js_3 (List.mem_of_getElem? (i := 113) rfl),
  List.forall_mem_cons.mpr ⟨js_3 (List.mem_of_getElem? (i := 114) rfl),
  List.forall_mem_cons.mpr ⟨js_3 (List.mem_of_getElem? (i := 115) rfl),
  List.forall_mem_cons.mpr ⟨js_3 (List.mem_of_getElem? (i := 117) rfl),
  List.forall_mem_cons.mpr ⟨js_3 (List.mem_of_getElem? (i := 118) rfl),
  List.forall_mem_cons.mpr ⟨js_3 (List.mem_of_getElem? (i := 119) rfl),
  List.forall_mem_cons.mpr ⟨js_3 (List.mem_of_getElem? (i := 121) rfl),
  List.forall_mem_cons.mpr ⟨js_3 (List.mem_of_getElem? (i := 122) rfl),
  List.forall_mem_cons.mpr ⟨js_3 (List.mem_of_getElem? (i := 123) rfl),
  List.forall_mem_cons.mpr ⟨js_3 (List.mem_of_getElem? (i := 125) rfl),
  List.forall_mem_cons.mpr ⟨js_3 (List.mem_of_getElem? (i := 127) rfl),
  List.forall_mem_cons.mpr ⟨js_3 (List.mem_of_getElem? (i := 129) rfl),
  List.forall_mem_cons.mpr ⟨js_3 (List.mem_of_getElem? (i := 130) rfl),
  List.forall_mem_cons.mpr ⟨js_3 (List.mem_of_getElem? (i := 131) rfl),
  List.forall_mem_cons.mpr ⟨js_3 (List.mem_of_getElem? (i := 133) rfl),
  List.forall_mem_cons.mpr ⟨js_3 (List.mem_of_getElem? (i := 135) rfl),
  List.forall_mem_cons.mpr ⟨js_3 (List.mem_of_getElem? (i := 137) rfl),
  List.forall_mem_cons.mpr ⟨js_3 (List.mem_of_getElem? (i := 138) rfl),
  List.forall_mem_cons.mpr ⟨js_3 (List.mem_of_getElem? (i := 139) rfl),
  List.forall_mem_cons.mpr ⟨js_3 (List.mem_of_getElem? (i := 140) rfl),
  List.forall_mem_cons.mpr ⟨js_3 (List.mem_of_getElem? (i := 141) rfl),
  List.forall_mem_cons.mpr ⟨js_3 (List.mem_of_getElem? (i := 142) rfl),
  List.forall_mem_cons.mpr ⟨js_3 (List.mem_of_getElem? (i := 143) rfl),
  List.forall_mem_cons.mpr ⟨js_3 (List.mem_of_getElem? (i := 144) rfl),
  List.forall_mem_cons.mpr ⟨js_3 (List.mem_of_getElem? (i := 145) rfl),
  List.forall_mem_cons.mpr ⟨js_3 (List.mem_of_getElem? (i := 147) rfl),
  List.forall_mem_cons.mpr ⟨js_3 (List.mem_of_getElem? (i := 148) rfl),
  List.forall_mem_cons.mpr ⟨js_3 (List.mem_of_getElem? (i := 149) rfl),
  List.forall_mem_cons.mpr ⟨js_3 (List.mem_of_getElem? (i := 150) rfl),
  List.forall_mem_cons.mpr ⟨js_3 (List.mem_of_getElem? (i := 151) rfl),
  List.forall_mem_cons.mpr ⟨js_3 (List.mem_of_getElem? (i := 152) rfl),
  List.forall_mem_cons.mpr ⟨js_3 (List.mem_of_getElem? (i := 153) rfl),
  List.forall_mem_cons.mpr ⟨js_3 (List.mem_of_getElem? (i := 154) rfl),
  List.forall_mem_cons.mpr ⟨js_3 (List.mem_of_getElem? (i := 155) rfl),
  List.forall_mem_cons.mpr ⟨js_3 (List.mem_of_getElem? (i := 156) rfl),
  List.forall_mem_cons.mpr ⟨js_3 (List.mem_of_getElem? (i := 157) rfl),
  List.forall_mem_cons.mpr ⟨js_3 (List.mem_of_getElem? (i := 158) rfl),
  List.forall_mem_cons.mpr ⟨js_3 (List.mem_of_getElem? (i := 159) rfl),
  fun _ h => absurd h List.not_mem_nil⟩⟩⟩⟩⟩⟩⟩⟩⟩⟩⟩⟩⟩⟩⟩⟩⟩⟩⟩⟩⟩⟩⟩⟩⟩⟩⟩⟩⟩⟩⟩⟩⟩⟩⟩⟩⟩⟩⟩⟩
set_option maxRecDepth 20000 in
theorem jTr_14 : ∀ r ∈ jT_14, jwd (jprog.map jsig) r ∈ lw_tbl := List.forall_mem_cons.mpr ⟨js_3 (List.mem_of_getElem? (i := 160) rfl),
  List.forall_mem_cons.mpr ⟨js_3 (List.mem_of_getElem? (i := 161) rfl),
  List.forall_mem_cons.mpr ⟨js_3 (List.mem_of_getElem? (i := 162) rfl),
  List.forall_mem_cons.mpr ⟨js_3 (List.mem_of_getElem? (i := 163) rfl),
  List.forall_mem_cons.mpr ⟨js_3 (List.mem_of_getElem? (i := 164) rfl),
  List.forall_mem_cons.mpr ⟨js_3 (List.mem_of_getElem? (i := 165) rfl),
  List.forall_mem_cons.mpr ⟨js_3 (List.mem_of_getElem? (i := 166) rfl),
  List.forall_mem_cons.mpr ⟨js_3 (List.mem_of_getElem? (i := 167) rfl),
  List.forall_mem_cons.mpr ⟨js_3 (List.mem_of_getElem? (i := 168) rfl),
  List.forall_mem_cons.mpr ⟨js_3 (List.mem_of_getElem? (i := 169) rfl),
  List.forall_mem_cons.mpr ⟨js_3 (List.mem_of_getElem? (i := 170) rfl),
  List.forall_mem_cons.mpr ⟨js_3 (List.mem_of_getElem? (i := 171) rfl),
  List.forall_mem_cons.mpr ⟨js_3 (List.mem_of_getElem? (i := 172) rfl),
  List.forall_mem_cons.mpr ⟨js_3 (List.mem_of_getElem? (i := 173) rfl),
  List.forall_mem_cons.mpr ⟨js_3 (List.mem_of_getElem? (i := 174) rfl),
  List.forall_mem_cons.mpr ⟨js_3 (List.mem_of_getElem? (i := 175) rfl),
  List.forall_mem_cons.mpr ⟨js_3 (List.mem_of_getElem? (i := 176) rfl),
  List.forall_mem_cons.mpr ⟨js_3 (List.mem_of_getElem? (i := 177) rfl),
  List.forall_mem_cons.mpr ⟨js_3 (List.mem_of_getElem? (i := 178) rfl),
  List.forall_mem_cons.mpr ⟨js_3 (List.mem_of_getElem? (i := 179) rfl),
  List.forall_mem_cons.mpr ⟨js_3 (List.mem_of_getElem? (i := 180) rfl),
  List.forall_mem_cons.mpr ⟨js_3 (List.mem_of_getElem? (i := 181) rfl),
  List.forall_mem_cons.mpr ⟨js_3 (List.mem_of_getElem? (i := 182) rfl),
  List.forall_mem_cons.mpr ⟨js_3 (List.mem_of_getElem? (i := 183) rfl),
  List.forall_mem_cons.mpr ⟨js_3 (List.mem_of_getElem? (i := 184) rfl),
  List.forall_mem_cons.mpr ⟨js_3 (List.mem_of_getElem? (i := 185) rfl),
  List.forall_mem_cons.mpr ⟨js_3 (List.mem_of_getElem? (i := 186) rfl),
  List.forall_mem_cons.mpr ⟨js_3 (List.mem_of_getElem? (i := 187) rfl),
  List.forall_mem_cons.mpr ⟨js_3 (List.mem_of_getElem? (i := 188) rfl),
  List.forall_mem_cons.mpr ⟨js_3 (List.mem_of_getElem? (i := 189) rfl),
  List.forall_mem_cons.mpr ⟨js_3 (List.mem_of_getElem? (i := 190) rfl),
  List.forall_mem_cons.mpr ⟨js_3 (List.mem_of_getElem? (i := 191) rfl),
  List.forall_mem_cons.mpr ⟨js_3 (List.mem_of_getElem? (i := 192) rfl),
  List.forall_mem_cons.mpr ⟨js_3 (List.mem_of_getElem? (i := 193) rfl),
  List.forall_mem_cons.mpr ⟨js_3 (List.mem_of_getElem? (i := 194) rfl),
  List.forall_mem_cons.mpr ⟨js_3 (List.mem_of_getElem? (i := 195) rfl),
  List.forall_mem_cons.mpr ⟨js_3 (List.mem_of_getElem? (i := 196) rfl),
  List.forall_mem_cons.mpr ⟨js_3 (List.mem_of_getElem? (i := 197) rfl),
  List.forall_mem_cons.mpr ⟨js_3 (List.mem_of_getElem? (i := 198) rfl),
  List.forall_mem_cons.mpr ⟨js_3 (List.mem_of_getElem? (i := 199) rfl),
  fun _ h => absurd h List.not_mem_nil⟩⟩⟩⟩⟩⟩⟩⟩⟩⟩⟩⟩⟩⟩⟩⟩⟩⟩⟩⟩⟩⟩⟩⟩⟩⟩⟩⟩⟩⟩⟩⟩⟩⟩⟩⟩⟩⟩⟩⟩
set_option maxRecDepth 20000 in
theorem jTr_15 : ∀ r ∈ jT_15, jwd (jprog.map jsig) r ∈ lw_tbl := List.forall_mem_cons.mpr ⟨js_3 (List.mem_of_getElem? (i := 200) rfl),
  List.forall_mem_cons.mpr ⟨js_3 (List.mem_of_getElem? (i := 201) rfl),
  List.forall_mem_cons.mpr ⟨js_3 (List.mem_of_getElem? (i := 202) rfl),
  List.forall_mem_cons.mpr ⟨js_3 (List.mem_of_getElem? (i := 203) rfl),
  List.forall_mem_cons.mpr ⟨js_3 (List.mem_of_getElem? (i := 204) rfl),
  List.forall_mem_cons.mpr ⟨js_3 (List.mem_of_getElem? (i := 205) rfl),
  List.forall_mem_cons.mpr ⟨js_3 (List.mem_of_getElem? (i := 206) rfl),
  List.forall_mem_cons.mpr ⟨js_3 (List.mem_of_getElem? (i := 207) rfl),
  List.forall_mem_cons.mpr ⟨js_3 (List.mem_of_getElem? (i := 208) rfl),
  List.forall_mem_cons.mpr ⟨js_3 (List.mem_of_getElem? (i := 209) rfl),
  List.forall_mem_cons.mpr ⟨js_3 (List.mem_of_getElem? (i := 210) rfl),
  List.forall_mem_cons.mpr ⟨js_3 (List.mem_of_getElem? (i := 211) rfl),
  List.forall_mem_cons.mpr ⟨js_3 (List.mem_of_getElem? (i := 213) rfl),
  List.forall_mem_cons.mpr ⟨js_3 (List.mem_of_getElem? (i := 214) rfl),
  List.forall_mem_cons.mpr ⟨js_3 (List.mem_of_getElem? (i := 215) rfl),
  List.forall_mem_cons.mpr ⟨js_3 (List.mem_of_getElem? (i := 216) rfl),
  List.forall_mem_cons.mpr ⟨js_3 (List.mem_of_getElem? (i := 217) rfl),
  List.forall_mem_cons.mpr ⟨js_3 (List.mem_of_getElem? (i := 218) rfl),
  List.forall_mem_cons.mpr ⟨js_3 (List.mem_of_getElem? (i := 219) rfl),
  List.forall_mem_cons.mpr ⟨js_3 (List.mem_of_getElem? (i := 220) rfl),
  List.forall_mem_cons.mpr ⟨js_3 (List.mem_of_getElem? (i := 221) rfl),
  List.forall_mem_cons.mpr ⟨js_3 (List.mem_of_getElem? (i := 222) rfl),
  List.forall_mem_cons.mpr ⟨js_3 (List.mem_of_getElem? (i := 223) rfl),
  List.forall_mem_cons.mpr ⟨js_3 (List.mem_of_getElem? (i := 224) rfl),
  List.forall_mem_cons.mpr ⟨js_3 (List.mem_of_getElem? (i := 225) rfl),
  List.forall_mem_cons.mpr ⟨js_3 (List.mem_of_getElem? (i := 226) rfl),
  List.forall_mem_cons.mpr ⟨js_3 (List.mem_of_getElem? (i := 227) rfl),
  List.forall_mem_cons.mpr ⟨js_3 (List.mem_of_getElem? (i := 228) rfl),
  List.forall_mem_cons.mpr ⟨js_3 (List.mem_of_getElem? (i := 229) rfl),
  List.forall_mem_cons.mpr ⟨js_3 (List.mem_of_getElem? (i := 230) rfl),
  List.forall_mem_cons.mpr ⟨js_3 (List.mem_of_getElem? (i := 231) rfl),
  List.forall_mem_cons.mpr ⟨js_3 (List.mem_of_getElem? (i := 232) rfl),
  List.forall_mem_cons.mpr ⟨js_3 (List.mem_of_getElem? (i := 233) rfl),
  List.forall_mem_cons.mpr ⟨js_3 (List.mem_of_getElem? (i := 234) rfl),
  List.forall_mem_cons.mpr ⟨js_3 (List.mem_of_getElem? (i := 235) rfl),
  List.forall_mem_cons.mpr ⟨js_3 (List.mem_of_getElem? (i := 236) rfl),
  List.forall_mem_cons.mpr ⟨js_3 (List.mem_of_getElem? (i := 237) rfl),
  List.forall_mem_cons.mpr ⟨js_3 (List.mem_of_getElem? (i := 238) rfl),
  List.forall_mem_cons.mpr ⟨js_3 (List.mem_of_getElem? (i := 239) rfl),
  List.forall_mem_cons.mpr ⟨js_4 (List.mem_of_getElem? (i := 1) rfl),
  fun _ h => absurd h List.not_mem_nil⟩⟩⟩⟩⟩⟩⟩⟩⟩⟩⟩⟩⟩⟩⟩⟩⟩⟩⟩⟩⟩⟩⟩⟩⟩⟩⟩⟩⟩⟩⟩⟩⟩⟩⟩⟩⟩⟩⟩⟩
set_option maxRecDepth 20000 in
theorem jTr_16 : ∀ r ∈ jT_16, jwd (jprog.map jsig) r ∈ lw_tbl := List.forall_mem_cons.mpr ⟨js_4 (List.mem_of_getElem? (i := 2) rfl),
  List.forall_mem_cons.mpr ⟨js_4 (List.mem_of_getElem? (i := 3) rfl),
  List.forall_mem_cons.mpr ⟨js_4 (List.mem_of_getElem? (i := 5) rfl),
  List.forall_mem_cons.mpr ⟨js_4 (List.mem_of_getElem? (i := 6) rfl),
  List.forall_mem_cons.mpr ⟨js_4 (List.mem_of_getElem? (i := 7) rfl),
  List.forall_mem_cons.mpr ⟨js_4 (List.mem_of_getElem? (i := 8) rfl),
  List.forall_mem_cons.mpr ⟨js_4 (List.mem_of_getElem? (i := 9) rfl),
  List.forall_mem_cons.mpr ⟨js_4 (List.mem_of_getElem? (i := 10) rfl),
  List.forall_mem_cons.mpr ⟨js_4 (List.mem_of_getElem? (i := 11) rfl),
  List.forall_mem_cons.mpr ⟨js_4 (List.mem_of_getElem? (i := 12) rfl),
  List.forall_mem_cons.mpr ⟨js_4 (List.mem_of_getElem? (i := 13) rfl),
  List.forall_mem_cons.mpr ⟨js_4 (List.mem_of_getElem? (i := 14) rfl),
  List.forall_mem_cons.mpr ⟨js_4 (List.mem_of_getElem? (i := 15) rfl),
  List.forall_mem_cons.mpr ⟨js_4 (List.mem_of_getElem? (i := 16) rfl),
  List.forall_mem_cons.mpr ⟨js_4 (List.mem_of_getElem? (i := 17) rfl),
  List.forall_mem_cons.mpr ⟨js_4 (List.mem_of_getElem? (i := 18) rfl),
  List.forall_mem_cons.mpr ⟨js_4 (List.mem_of_getElem? (i := 19) rfl),
  List.forall_mem_cons.mpr ⟨js_4 (List.mem_of_getElem? (i := 20) rfl),
  List.forall_mem_cons.mpr ⟨js_4 (List.mem_of_getElem? (i := 21) rfl),
  List.forall_mem_cons.mpr ⟨js_4 (List.mem_of_getElem? (i := 22) rfl),
  List.forall_mem_cons.mpr ⟨js_4 (List.mem_of_getElem? (i := 23) rfl),
  List.forall_mem_cons.mpr ⟨js_4 (List.mem_of_getElem? (i := 24) rfl),
  List.forall_mem_cons.mpr ⟨js_4 (List.mem_of_getElem? (i := 25) rfl),
  List.forall_mem_cons.mpr ⟨js_4 (List.mem_of_getElem? (i := 26) rfl),
  List.forall_mem_cons.mpr ⟨js_4 (List.mem_of_getElem? (i := 27) rfl),
  List.forall_mem_cons.mpr ⟨js_4 (List.mem_of_getElem? (i := 28) rfl),
  List.forall_mem_cons.mpr ⟨js_4 (List.mem_of_getElem? (i := 29) rfl),
  List.forall_mem_cons.mpr ⟨js_4 (List.mem_of_getElem? (i := 30) rfl),
  List.forall_mem_cons.mpr ⟨js_4 (List.mem_of_getElem? (i := 31) rfl),
  List.forall_mem_cons.mpr ⟨js_4 (List.mem_of_getElem? (i := 32) rfl),
  List.forall_mem_cons.mpr ⟨js_4 (List.mem_of_getElem? (i := 33) rfl),
  List.forall_mem_cons.mpr ⟨js_4 (List.mem_of_getElem? (i := 34) rfl),
  List.forall_mem_cons.mpr ⟨js_4 (List.mem_of_getElem? (i := 35) rfl),
  List.forall_mem_cons.mpr ⟨js_4 (List.mem_of_getElem? (i := 36) rfl),
  List.forall_mem_cons.mpr ⟨js_4 (List.mem_of_getElem? (i := 37) rfl),
  List.forall_mem_cons.mpr ⟨js_4 (List.mem_of_getElem? (i := 38) rfl),
  List.forall_mem_cons.mpr ⟨js_4 (List.mem_of_getElem? (i := 39) rfl),
  List.forall_mem_cons.mpr ⟨js_4 (List.mem_of_getElem? (i := 40) rfl),
  List.forall_mem_cons.mpr ⟨js_4 (List.mem_of_getElem? (i := 42) rfl),
  List.forall_mem_cons.mpr ⟨js_4 (List.mem_of_getElem? (i := 43) rfl),
  fun _ h => absurd h List.not_mem_nil⟩⟩⟩⟩⟩⟩⟩⟩⟩⟩⟩⟩⟩⟩⟩⟩⟩⟩⟩⟩⟩⟩⟩⟩⟩⟩⟩⟩⟩⟩⟩⟩⟩⟩⟩⟩⟩⟩⟩⟩
set_option maxRecDepth 20000 in
theorem jTr_17 : ∀ r ∈ jT_17, jwd (jprog.map jsig) r ∈ lw_tbl := List.forall_mem_cons.mpr ⟨js_4 (List.mem_of_getElem? (i := 44) rfl),
  List.forall_mem_cons.mpr ⟨js_4 (List.mem_of_getElem? (i := 45) rfl),
  List.forall_mem_cons.mpr ⟨js_4 (List.mem_of_getElem? (i := 46) rfl),
  List.forall_mem_cons.mpr ⟨js_4 (List.mem_of_getElem? (i := 47) rfl),
  List.forall_mem_cons.mpr ⟨js_4 (List.mem_of_getElem? (i := 48) rfl),
  List.forall_mem_cons.mpr ⟨js_4 (List.mem_of_getElem? (i := 49) rfl),
  List.forall_mem_cons.mpr ⟨js_4 (List.mem_of_getElem? (i := 50) rfl),
  List.forall_mem_cons.mpr ⟨js_4 (List.mem_of_getElem? (i := 51) rfl),
  List.forall_mem_cons.mpr ⟨js_4 (List.mem_of_getElem? (i := 52) rfl),
  List.forall_mem_cons.mpr ⟨js_4 (List.mem_of_getElem? (i := 53) rfl),
  List.forall_mem_cons.mpr ⟨js_4 (List.mem_of_getElem? (i := 54) rfl),
  List.forall_mem_cons.mpr ⟨js_4 (List.mem_of_getElem? (i := 55) rfl),
  List.forall_mem_cons.mpr ⟨js_4 (List.mem_of_getElem? (i := 56) rfl),
  List.forall_mem_cons.mpr ⟨js_4 (List.mem_of_getElem? (i := 57) rfl),
  List.forall_mem_cons.mpr ⟨js_4 (List.mem_of_getElem? (i := 58) rfl),
  List.forall_mem_cons.mpr ⟨js_4 (List.mem_of_getElem? (i := 59) rfl),
  List.forall_mem_cons.mpr ⟨js_4 (List.mem_of_getElem? (i := 60) rfl),
  List.forall_mem_cons.mpr ⟨js_4 (List.mem_of_getElem? (i := 61) rfl),
  List.forall_mem_cons.mpr ⟨js_4 (List.mem_of_getElem? (i := 62) rfl),
  List.forall_mem_cons.mpr ⟨js_4 (List.mem_of_getElem? (i := 63) rfl),
  List.forall_mem_cons.mpr ⟨js_4 (List.mem_of_getElem? (i := 64) rfl),
  List.forall_mem_cons.mpr ⟨js_4 (List.mem_of_getElem? (i := 65) rfl),
  List.forall_mem_cons.mpr ⟨js_4 (List.mem_of_getElem? (i := 66) rfl),
  List.forall_mem_cons.mpr ⟨js_4 (List.mem_of_getElem? (i := 67) rfl),
  List.forall_mem_cons.mpr ⟨js_4 (List.mem_of_getElem? (i := 68) rfl),
  List.forall_mem_cons.mpr ⟨js_4 (List.mem_of_getElem? (i := 69) rfl),
  List.forall_mem_cons.mpr ⟨js_4 (List.mem_of_getElem? (i := 70) rfl),
  List.forall_mem_cons.mpr ⟨js_4 (List.mem_of_getElem? (i := 71) rfl),
  List.forall_mem_cons.mpr ⟨js_4 (List.mem_of_getElem? (i := 72) rfl),
  List.forall_mem_cons.mpr ⟨js_4 (List.mem_of_getElem? (i := 73) rfl),
  List.forall_mem_cons.mpr ⟨js_4 (List.mem_of_getElem? (i := 74) rfl),
  List.forall_mem_cons.mpr ⟨js_4 (List.mem_of_getElem? (i := 75) rfl),
  List.forall_mem_cons.mpr ⟨js_4 (List.mem_of_getElem? (i := 76) rfl),
  List.forall_mem_cons.mpr ⟨js_4 (List.mem_of_getElem? (i := 77) rfl),
  List.forall_mem_cons.mpr ⟨js_4 (List.mem_of_getElem? (i := 78) rfl),
  List.forall_mem_cons.mpr ⟨js_4 (List.mem_of_getElem? (i := 79) rfl),
  List.forall_mem_cons.mpr ⟨js_4 (List.mem_of_getElem? (i := 80) rfl),
  List.forall_mem_cons.mpr ⟨js_4 (List.mem_of_getElem? (i := 81) rfl),
  List.forall_mem_cons.mpr ⟨js_4 (List.mem_of_getElem? (i := 82) rfl),
  List.forall_mem_cons.mpr ⟨js_4 (List.mem_of_getElem? (i := 83) rfl),
  fun _ h => absurd h List.not_mem_nil⟩⟩⟩⟩⟩⟩⟩⟩⟩⟩⟩⟩⟩⟩⟩⟩⟩⟩⟩⟩⟩⟩⟩⟩⟩⟩⟩⟩⟩⟩⟩⟩⟩⟩⟩⟩⟩⟩⟩⟩
set_option maxRecDepth 20000 in
theorem jTr_18 : ∀ r ∈ jT_18, jwd (jprog.map jsig) r ∈ lw_tbl := List.forall_mem_cons.mpr ⟨js_4 (List.mem_of_getElem? (i := 84) rfl),
  List.forall_mem_cons.mpr ⟨js_4 (List.mem_of_getElem? (i := 85) rfl),
  List.forall_mem_cons.mpr ⟨js_4 (List.mem_of_getElem? (i := 86) rfl),
  List.forall_mem_cons.mpr ⟨js_4 (List.mem_of_getElem? (i := 87) rfl),
  List.forall_mem_cons.mpr ⟨js_4 (List.mem_of_getElem? (i := 88) rfl),
  List.forall_mem_cons.mpr ⟨js_4 (List.mem_of_getElem? (i := 89) rfl),
  List.forall_mem_cons.mpr ⟨js_4 (List.mem_of_getElem? (i := 90) rfl),
  List.forall_mem_cons.mpr ⟨js_4 (List.mem_of_getElem? (i := 91) rfl),
  List.forall_mem_cons.mpr ⟨js_4 (List.mem_of_getElem? (i := 92) rfl),
  List.forall_mem_cons.mpr ⟨js_4 (List.mem_of_getElem? (i := 93) rfl),
  List.forall_mem_cons.mpr ⟨js_4 (List.mem_of_getElem? (i := 94) rfl),
  List.forall_mem_cons.mpr ⟨js_4 (List.mem_of_getElem? (i := 95) rfl),
  List.forall_mem_cons.mpr ⟨js_4 (List.mem_of_getElem? (i := 96) rfl),
  List.forall_mem_cons.mpr ⟨js_4 (List.mem_of_getElem? (i := 97) rfl),
  List.forall_mem_cons.mpr ⟨js_4 (List.mem_of_getElem? (i := 98) rfl),
  List.forall_mem_cons.mpr ⟨js_4 (List.mem_of_getElem? (i := 99) rfl),
  List.forall_mem_cons.mpr ⟨js_4 (List.mem_of_getElem? (i := 100) rfl),
  List.forall_mem_cons.mpr ⟨js_4 (List.mem_of_getElem? (i := 101) rfl),
  List.forall_mem_cons.mpr ⟨js_4 (List.mem_of_getElem? (i := 102) rfl),
  List.forall_mem_cons.mpr ⟨js_4 (List.mem_of_getElem? (i := 103) rfl),
  List.forall_mem_cons.mpr ⟨js_4 (List.mem_of_getElem? (i := 104) rfl),
  List.forall_mem_cons.mpr ⟨js_4 (List.mem_of_getElem? (i := 106) rfl),
  List.forall_mem_cons.mpr ⟨js_4 (List.mem_of_getElem? (i := 107) rfl),
  List.forall_mem_cons.mpr ⟨js_4 (List.mem_of_getElem? (i := 108) rfl),
  List.forall_mem_cons.mpr ⟨js_4 (List.mem_of_getElem? (i := 109) rfl),
  List.forall_mem_cons.mpr ⟨js_4 (List.mem_of_getElem? (i := 110) rfl),
  List.forall_mem_cons.mpr ⟨js_4 (List.mem_of_getElem? (i := 111) rfl),
  List.forall_mem_cons.mpr ⟨js_4 (List.mem_of_getElem? (i := 112) rfl),
  List.forall_mem_cons.mpr ⟨js_4 (List.mem_of_getElem? (i := 113) rfl),
  List.forall_mem_cons.mpr ⟨js_4 (List.mem_of_getElem? (i := 114) rfl),
  List.forall_mem_cons.mpr ⟨js_4 (List.mem_of_getElem? (i := 115) rfl),
  List.forall_mem_cons.mpr ⟨js_4 (List.mem_of_getElem? (i := 116) rfl),
  List.forall_mem_cons.mpr ⟨js_4 (List.mem_of_getElem? (i := 117) rfl),
  List.forall_mem_cons.mpr ⟨js_4 (List.mem_of_getElem? (i := 118) rfl),
  List.forall_mem_cons.mpr ⟨js_4 (List.mem_of_getElem? (i := 119) rfl),
  List.forall_mem_cons.mpr ⟨js_4 (List.mem_of_getElem? (i := 120) rfl),
  List.forall_mem_cons.mpr ⟨js_4 (List.mem_of_getElem? (i := 121) rfl),
  List.forall_mem_cons.mpr ⟨js_4 (List.mem_of_getElem? (i := 122) rfl),
  List.forall_mem_cons.mpr ⟨js_4 (List.mem_of_getElem? (i := 123) rfl),
  List.forall_mem_cons.mpr ⟨js_4 (List.mem_of_getElem? (i := 124) rfl),
  fun _ h => absurd h List.not_mem_nil⟩⟩⟩⟩⟩⟩⟩⟩⟩⟩⟩⟩⟩⟩⟩⟩⟩⟩⟩⟩⟩⟩⟩⟩⟩⟩⟩⟩⟩⟩⟩⟩⟩⟩⟩⟩⟩⟩⟩⟩
set_option maxRecDepth 20000 in
theorem jTr_19 : ∀ r ∈ jT_19, jwd (jprog.map jsig) r ∈ lw_tbl := List.forall_mem_cons.mpr ⟨js_4 (List.mem_of_getElem? (i := 125) rfl),
  List.forall_mem_cons.mpr ⟨js_4 (List.mem_of_getElem? (i := 126) rfl),
  List.forall_mem_cons.mpr ⟨js_4 (List.mem_of_getElem? (i := 127) rfl),
  List.forall_mem_cons.mpr ⟨js_4 (List.mem_of_getElem? (i := 128) rfl),
  List.forall_mem_cons.mpr ⟨js_4 (List.mem_of_getElem? (i := 129) rfl),
  List.forall_mem_cons.mpr ⟨js_4 (List.mem_of_getElem? (i := 130) rfl),
  List.forall_mem_cons.mpr ⟨js_4 (List.mem_of_getElem? (i := 131) rfl),
  List.forall_mem_cons.mpr ⟨js_4 (List.mem_of_getElem? (i := 132) rfl),
  List.forall_mem_cons.mpr ⟨js_4 (List.mem_of_getElem? (i := 133) rfl),
  List.forall_mem_cons.mpr ⟨js_4 (List.mem_of_getElem? (i := 134) rfl),
  List.forall_mem_cons.mpr ⟨js_4 (List.mem_of_getElem? (i := 135) rfl),
  List.forall_mem_cons.mpr ⟨js_4 (List.mem_of_getElem? (i := 136) rfl),
  List.forall_mem_cons.mpr ⟨js_4 (List.mem_of_getElem? (i := 137) rfl),
  List.forall_mem_cons.mpr ⟨js_4 (List.mem_of_getElem? (i := 138) rfl),
  List.forall_mem_cons.mpr ⟨js_4 (List.mem_of_getElem? (i := 139) rfl),
  List.forall_mem_cons.mpr ⟨js_4 (List.mem_of_getElem? (i := 140) rfl),
  List.forall_mem_cons.mpr ⟨js_4 (List.mem_of_getElem? (i := 141) rfl),
  List.forall_mem_cons.mpr ⟨js_4 (List.mem_of_getElem? (i := 142) rfl),
  List.forall_mem_cons.mpr ⟨js_4 (List.mem_of_getElem? (i := 143) rfl),
  List.forall_mem_cons.mpr ⟨js_4 (List.mem_of_getElem? (i := 144) rfl),
  List.forall_mem_cons.mpr ⟨js_4 (List.mem_of_getElem? (i := 145) rfl),
  List.forall_mem_cons.mpr ⟨js_4 (List.mem_of_getElem? (i := 146) rfl),
  List.forall_mem_cons.mpr ⟨js_4 (List.mem_of_getElem? (i := 147) rfl),
  List.forall_mem_cons.mpr ⟨js_4 (List.mem_of_getElem? (i := 148) rfl),
  List.forall_mem_cons.mpr ⟨js_4 (List.mem_of_getElem? (i := 149) rfl),
  List.forall_mem_cons.mpr ⟨js_4 (List.mem_of_getElem? (i := 150) rfl),
  List.forall_mem_cons.mpr ⟨js_4 (List.mem_of_getElem? (i := 151) rfl),
  List.forall_mem_cons.mpr ⟨js_4 (List.mem_of_getElem? (i := 152) rfl),
  List.forall_mem_cons.mpr ⟨js_4 (List.mem_of_getElem? (i := 153) rfl),
  List.forall_mem_cons.mpr ⟨js_4 (List.mem_of_getElem? (i := 154) rfl),
  List.forall_mem_cons.mpr ⟨js_4 (List.mem_of_getElem? (i := 155) rfl),
  List.forall_mem_cons.mpr ⟨js_4 (List.mem_of_getElem? (i := 156) rfl),
  List.forall_mem_cons.mpr ⟨js_4 (List.mem_of_getElem? (i := 157) rfl),
  List.forall_mem_cons.mpr ⟨js_4 (List.mem_of_getElem? (i := 158) rfl),
  List.forall_mem_cons.mpr ⟨js_4 (List.mem_of_getElem? (i := 159) rfl),
  List.forall_mem_cons.mpr ⟨js_4 (List.mem_of_getElem? (i := 160) rfl),
  List.forall_mem_cons.mpr ⟨js_4 (List.mem_of_getElem? (i := 161) rfl),
  List.forall_mem_cons.mpr ⟨js_4 (List.mem_of_getElem? (i := 162) rfl),
  List.forall_mem_cons.mpr ⟨js_4 (List.mem_of_getElem? (i := 163) rfl),
  List.forall_mem_cons.mpr ⟨js_4 (List.mem_of_getElem? (i := 164) rfl),
  fun _ h => absurd h List.not_mem_nil⟩⟩⟩⟩⟩⟩⟩⟩⟩⟩⟩⟩⟩⟩⟩⟩⟩⟩⟩⟩⟩⟩⟩⟩⟩⟩⟩⟩⟩⟩⟩⟩⟩⟩⟩⟩⟩⟩⟩⟩
set_option maxRecDepth 20000 in
theorem jTr_20 : ∀ r ∈ jT_20, jwd (jprog.map jsig) r ∈ lw_tbl := List.forall_mem_cons.mpr ⟨js_4 (List.mem_of_getElem? (i := 165) rfl),
  List.forall_mem_cons.mpr ⟨js_4 (List.mem_of_getElem? (i := 166) rfl),
  List.forall_mem_cons.mpr ⟨js_4 (List.mem_of_getElem? (i := 167) rfl),
  List.forall_mem_cons.mpr ⟨js_4 (List.mem_of_getElem? (i := 168) rfl),
  List.forall_mem_cons.mpr ⟨js_4 (List.mem_of_getElem? (i := 169) rfl),
  List.forall_mem_cons.mpr ⟨js_4 (List.mem_of_getElem? (i := 170) rfl),
  List.forall_mem_cons.mpr ⟨js_4 (List.mem_of_getElem? (i := 171) rfl),
  List.forall_mem_cons.mpr ⟨js_4 (List.mem_of_getElem? (i := 172) rfl),
  List.forall_mem_cons.mpr ⟨js_4 (List.mem_of_getElem? (i := 173) rfl),
  List.forall_mem_cons.mpr ⟨js_4 (List.mem_of_getElem? (i := 174) rfl),
  List.forall_mem_cons.mpr ⟨js_4 (List.mem_of_getElem? (i := 175) rfl),
  List.forall_mem_cons.mpr ⟨js_4 (List.mem_of_getElem? (i := 176) rfl),
  List.forall_mem_cons.mpr ⟨js_4 (List.mem_of_getElem? (i := 177) rfl),
  List.forall_mem_cons.mpr ⟨js_4 (List.mem_of_getElem? (i := 178) rfl),
  List.forall_mem_cons.mpr ⟨js_4 (List.mem_of_getElem? (i := 179) rfl),
  List.forall_mem_cons.mpr ⟨js_4 (List.mem_of_getElem? (i := 180) rfl),
  List.forall_mem_cons.mpr ⟨js_4 (List.mem_of_getElem? (i := 181) rfl),
  List.forall_mem_cons.mpr ⟨js_4 (List.mem_of_getElem? (i := 182) rfl),
  List.forall_mem_cons.mpr ⟨js_4 (List.mem_of_getElem? (i := 183) rfl),
  List.forall_mem_cons.mpr ⟨js_4 (List.mem_of_getElem? (i := 184) rfl),
  List.forall_mem_cons.mpr ⟨js_4 (List.mem_of_getElem? (i := 185) rfl),
  List.forall_mem_cons.mpr ⟨js_4 (List.mem_of_getElem? (i := 186) rfl),
  List.forall_mem_cons.mpr ⟨js_4 (List.mem_of_getElem? (i := 187) rfl),
  List.forall_mem_cons.mpr ⟨js_4 (List.mem_of_getElem? (i := 188) rfl),
  List.forall_mem_cons.mpr ⟨js_4 (List.mem_of_getElem? (i := 189) rfl),
  List.forall_mem_cons.mpr ⟨js_4 (List.mem_of_getElem? (i := 190) rfl),
  List.forall_mem_cons.mpr ⟨js_4 (List.mem_of_getElem? (i := 191) rfl),
  List.forall_mem_cons.mpr ⟨js_4 (List.mem_of_getElem? (i := 192) rfl),
  List.forall_mem_cons.mpr ⟨js_4 (List.mem_of_getElem? (i := 193) rfl),
  List.forall_mem_cons.mpr ⟨js_4 (List.mem_of_getElem? (i := 194) rfl),
  List.forall_mem_cons.mpr ⟨js_4 (List.mem_of_getElem? (i := 195) rfl),
  List.forall_mem_cons.mpr ⟨js_4 (List.mem_of_getElem? (i := 196) rfl),
  List.forall_mem_cons.mpr ⟨js_4 (List.mem_of_getElem? (i := 197) rfl),
  List.forall_mem_cons.mpr ⟨js_4 (List.mem_of_getElem? (i := 198) rfl),
  List.forall_mem_cons.mpr ⟨js_4 (List.mem_of_getElem? (i := 199) rfl),
  List.forall_mem_cons.mpr ⟨js_4 (List.mem_of_getElem? (i := 200) rfl),
  List.forall_mem_cons.mpr ⟨js_4 (List.mem_of_getElem? (i := 201) rfl),
  List.forall_mem_cons.mpr ⟨js_4 (List.mem_of_getElem? (i := 202) rfl),
  List.forall_mem_cons.mpr ⟨js_4 (List.mem_of_getElem? (i := 203) rfl),
  List.forall_mem_cons.mpr ⟨js_4 (List.mem_of_getElem? (i := 204) rfl),
  fun _ h => absurd h List.not_mem_nil⟩⟩⟩⟩⟩⟩⟩⟩⟩⟩⟩⟩⟩⟩⟩⟩⟩⟩⟩⟩⟩⟩⟩⟩⟩⟩⟩⟩⟩⟩⟩⟩⟩⟩⟩⟩⟩⟩⟩⟩
set_option maxRecDepth 20000 in
theorem jTr_21 : ∀ r ∈ jT_21, jwd (jprog.map jsig) r ∈ lw_tbl := List.forall_mem_cons.mpr ⟨js_4 (List.mem_of_getElem? (i := 205) rfl),
  List.forall_mem_cons.mpr ⟨js_4 (List.mem_of_getElem? (i := 206) rfl),
  List.forall_mem_cons.mpr ⟨js_4 (List.mem_of_getElem? (i := 207) rfl),
  List.forall_mem_cons.mpr ⟨js_4 (List.mem_of_getElem? (i := 208) rfl),
  List.forall_mem_cons.mpr ⟨js_4 (List.mem_of_getElem? (i := 209) rfl),
  List.forall_mem_cons.mpr ⟨js_4 (List.mem_of_getElem? (i := 210) rfl),
  List.forall_mem_cons.mpr ⟨js_4 (List.mem_of_getElem? (i := 211) rfl),
  List.forall_mem_cons.mpr ⟨js_4 (List.mem_of_getElem? (i := 212) rfl),
  List.forall_mem_cons.mpr ⟨js_4 (List.mem_of_getElem? (i := 213) rfl),
  List.forall_mem_cons.mpr ⟨js_4 (List.mem_of_getElem? (i := 214) rfl),
  List.forall_mem_cons.mpr ⟨js_4 (List.mem_of_getElem? (i := 215) rfl),
  List.forall_mem_cons.mpr ⟨js_4 (List.mem_of_getElem? (i := 216) rfl),
  List.forall_mem_cons.mpr ⟨js_4 (List.mem_of_getElem? (i := 217) rfl),
  List.forall_mem_cons.mpr ⟨js_4 (List.mem_of_getElem? (i := 218) rfl),
  List.forall_mem_cons.mpr ⟨js_4 (List.mem_of_getElem? (i := 219) rfl),
  List.forall_mem_cons.mpr ⟨js_4 (List.mem_of_getElem? (i := 220) rfl),
  List.forall_mem_cons.mpr ⟨js_4 (List.mem_of_getElem? (i := 221) rfl),
  List.forall_mem_cons.mpr ⟨js_4 (List.mem_of_getElem? (i := 222) rfl),
  List.forall_mem_cons.mpr ⟨js_4 (List.mem_of_getElem? (i := 223) rfl),
  List.forall_mem_cons.mpr ⟨js_4 (List.mem_of_getElem? (i := 224) rfl),
  List.forall_mem_cons.mpr ⟨js_4 (List.mem_of_getElem? (i := 225) rfl),
  List.forall_mem_cons.mpr ⟨js_4 (List.mem_of_getElem? (i := 226) rfl),
  List.forall_mem_cons.mpr ⟨js_4 (List.mem_of_getElem? (i := 227) rfl),
  List.forall_mem_cons.mpr ⟨js_4 (List.mem_of_getElem? (i := 228) rfl),
  List.forall_mem_cons.mpr ⟨js_4 (List.mem_of_getElem? (i := 229) rfl),
  List.forall_mem_cons.mpr ⟨js_4 (List.mem_of_getElem? (i := 230) rfl),
  List.forall_mem_cons.mpr ⟨js_4 (List.mem_of_getElem? (i := 231) rfl),
  List.forall_mem_cons.mpr ⟨js_4 (List.mem_of_getElem? (i := 232) rfl),
  List.forall_mem_cons.mpr ⟨js_4 (List.mem_of_getElem? (i := 233) rfl),
  List.forall_mem_cons.mpr ⟨js_4 (List.mem_of_getElem? (i := 234) rfl),
  List.forall_mem_cons.mpr ⟨js_4 (List.mem_of_getElem? (i := 235) rfl),
  List.forall_mem_cons.mpr ⟨js_4 (List.mem_of_getElem? (i := 236) rfl),
  List.forall_mem_cons.mpr ⟨js_4 (List.mem_of_getElem? (i := 237) rfl),
  List.forall_mem_cons.mpr ⟨js_4 (List.mem_of_getElem? (i := 238) rfl),
  List.forall_mem_cons.mpr ⟨js_4 (List.mem_of_getElem? (i := 239) rfl),
  List.forall_mem_cons.mpr ⟨js_5 (List.mem_of_getElem? (i := 0) rfl),
  List.forall_mem_cons.mpr ⟨js_5 (List.mem_of_getElem? (i := 1) rfl),
  List.forall_mem_cons.mpr ⟨js_5 (List.mem_of_getElem? (i := 2) rfl),
  List.forall_mem_cons.mpr ⟨js_5 (List.mem_of_getElem? (i := 3) rfl),
  List.forall_mem_cons.mpr ⟨js_5 (List.mem_of_getElem? (i := 4) rfl),
  fun _ h => absurd h List.not_mem_nil⟩⟩⟩⟩⟩⟩⟩⟩⟩⟩⟩⟩⟩⟩⟩⟩⟩⟩⟩⟩⟩⟩⟩⟩⟩⟩⟩⟩⟩⟩⟩⟩⟩⟩⟩⟩⟩⟩⟩⟩
set_option maxRecDepth 20000 in
theorem jTr_22 : ∀ r ∈ jT_22, jwd (jprog.map jsig) r ∈ lw_tbl := List.forall_mem_cons.mpr ⟨js_5 (List.mem_of_getElem? (i := 5) rfl),
  List.forall_mem_cons.mpr ⟨js_5 (List.mem_of_getElem? (i := 6) rfl),
  List.forall_mem_cons.mpr ⟨js_5 (List.mem_of_getElem? (i := 8) rfl),
  List.forall_mem_cons.mpr ⟨js_5 (List.mem_of_getElem? (i := 9) rfl),
  List.forall_mem_cons.mpr ⟨js_5 (List.mem_of_getElem? (i := 10) rfl),
  List.forall_mem_cons.mpr ⟨js_5 (List.mem_of_getElem? (i := 11) rfl),
  List.forall_mem_cons.mpr ⟨js_5 (List.mem_of_getElem? (i := 12) rfl),
  List.forall_mem_cons.mpr ⟨js_5 (List.mem_of_getElem? (i := 13) rfl),
  List.forall_mem_cons.mpr ⟨js_5 (List.mem_of_getElem? (i := 14) rfl),
  List.forall_mem_cons.mpr ⟨js_5 (List.mem_of_getElem? (i := 15) rfl),
  List.forall_mem_cons.mpr ⟨js_5 (List.mem_of_getElem? (i := 16) rfl),
  List.forall_mem_cons.mpr ⟨js_5 (List.mem_of_getElem? (i := 17) rfl),
  List.forall_mem_cons.mpr ⟨js_5 (List.mem_of_getElem? (i := 18) rfl),
  List.forall_mem_cons.mpr ⟨js_5 (List.mem_of_getElem? (i := 19) rfl),
  List.forall_mem_cons.mpr ⟨js_5 (List.mem_of_getElem? (i := 20) rfl),
  List.forall_mem_cons.mpr ⟨js_5 (List.mem_of_getElem? (i := 21) rfl),
  List.forall_mem_cons.mpr ⟨js_5 (List.mem_of_getElem? (i := 22) rfl),
  List.forall_mem_cons.mpr ⟨js_5 (List.mem_of_getElem? (i := 23) rfl),
  List.forall_mem_cons.mpr ⟨js_5 (List.mem_of_getElem? (i := 24) rfl),
  List.forall_mem_cons.mpr ⟨js_5 (List.mem_of_getElem? (i := 25) rfl),
  List.forall_mem_cons.mpr ⟨js_5 (List.mem_of_getElem? (i := 26) rfl),
  List.forall_mem_cons.mpr ⟨js_5 (List.mem_of_getElem? (i := 27) rfl),
  List.forall_mem_cons.mpr ⟨js_5 (List.mem_of_getElem? (i := 28) rfl),
  List.forall_mem_cons.mpr ⟨js_5 (List.mem_of_getElem? (i := 29) rfl),
  List.forall_mem_cons.mpr ⟨js_5 (List.mem_of_getElem? (i := 30) rfl),
  List.forall_mem_cons.mpr ⟨js_5 (List.mem_of_getElem? (i := 31) rfl),
  List.forall_mem_cons.mpr ⟨js_5 (List.mem_of_getElem? (i := 32) rfl),
  List.forall_mem_cons.mpr ⟨js_5 (List.mem_of_getElem? (i := 33) rfl),
  List.forall_mem_cons.mpr ⟨js_5 (List.mem_of_getElem? (i := 34) rfl),
  List.forall_mem_cons.mpr ⟨js_5 (List.mem_of_getElem? (i := 35) rfl),
  List.forall_mem_cons.mpr ⟨js_5 (List.mem_of_getElem? (i := 36) rfl),
  List.forall_mem_cons.mpr ⟨js_5 (List.mem_of_getElem? (i := 38) rfl),
  List.forall_mem_cons.mpr ⟨js_5 (List.mem_of_getElem? (i := 39) rfl),
  List.forall_mem_cons.mpr ⟨js_5 (List.mem_of_getElem? (i := 40) rfl),
  List.forall_mem_cons.mpr ⟨js_5 (List.mem_of_getElem? (i := 41) rfl),
  List.forall_mem_cons.mpr ⟨js_5 (List.mem_of_getElem? (i := 42) rfl),
  List.forall_mem_cons.mpr ⟨js_5 (List.mem_of_getElem? (i := 43) rfl),
  List.forall_mem_cons.mpr ⟨js_5 (List.mem_of_getElem? (i := 44) rfl),
  List.forall_mem_cons.mpr ⟨js_5 (List.mem_of_getElem? (i := 45) rfl),
  List.forall_mem_cons.mpr ⟨js_5 (List.mem_of_getElem? (i := 46) rfl),
  fun _ h => absurd h List.not_mem_nil⟩⟩⟩⟩⟩⟩⟩⟩⟩⟩⟩⟩⟩⟩⟩⟩⟩⟩⟩⟩⟩⟩⟩⟩⟩⟩⟩⟩⟩⟩⟩⟩⟩⟩⟩⟩⟩⟩⟩⟩
set_option maxRecDepth 20000 in
theorem jTr_23 : ∀ r ∈ jT_23, jwd (jprog.map jsig) r ∈ lw_tbl := List.forall_mem_cons.mpr ⟨js_5 (List.mem_of_getElem? (i := 47) rfl),
  List.forall_mem_cons.mpr ⟨js_5 (List.mem_of_getElem? (i := 48) rfl),
  List.forall_mem_cons.mpr ⟨js_5 (List.mem_of_getElem? (i := 49) rfl),
  List.forall_mem_cons.mpr ⟨js_5 (List.mem_of_getElem? (i := 50) rfl),
  List.forall_mem_cons.mpr ⟨js_5 (List.mem_of_getElem? (i := 51) rfl),
  List.forall_mem_cons.mpr ⟨js_5 (List.mem_of_getElem? (i := 52) rfl),
  List.forall_mem_cons.mpr ⟨js_5 (List.mem_of_getElem? (i := 53) rfl),
  List.forall_mem_cons.mpr ⟨js_5 (List.mem_of_getElem? (i := 54) rfl),
  List.forall_mem_cons.mpr ⟨js_5 (List.mem_of_getElem? (i := 55) rfl),
  List.forall_mem_cons.mpr ⟨js_5 (List.mem_of_getElem? (i := 56) rfl),
  List.forall_mem_cons.mpr ⟨js_5 (List.mem_of_getElem? (i := 57) rfl),
  List.forall_mem_cons.mpr ⟨js_5 (List.mem_of_getElem? (i := 59) rfl),
  List.forall_mem_cons.mpr ⟨js_5 (List.mem_of_getElem? (i := 60) rfl),
  List.forall_mem_cons.mpr ⟨js_5 (List.mem_of_getElem? (i := 61) rfl),
  List.forall_mem_cons.mpr ⟨js_5 (List.mem_of_getElem? (i := 62) rfl),
  List.forall_mem_cons.mpr ⟨js_5 (List.mem_of_getElem? (i := 63) rfl),
  List.forall_mem_cons.mpr ⟨js_5 (List.mem_of_getElem? (i := 64) rfl),
  List.forall_mem_cons.mpr ⟨js_5 (List.mem_of_getElem? (i := 65) rfl),
  List.forall_mem_cons.mpr ⟨js_5 (List.mem_of_getElem? (i := 66) rfl),
  List.forall_mem_cons.mpr ⟨js_5 (List.mem_of_getElem? (i := 67) rfl),
  List.forall_mem_cons.mpr ⟨js_5 (List.mem_of_getElem? (i := 68) rfl),
  List.forall_mem_cons.mpr ⟨js_5 (List.mem_of_getElem? (i := 69) rfl),
  List.forall_mem_cons.mpr ⟨js_5 (List.mem_of_getElem? (i := 70) rfl),
  List.forall_mem_cons.mpr ⟨js_5 (List.mem_of_getElem? (i := 71) rfl),
  List.forall_mem_cons.mpr ⟨js_5 (List.mem_of_getElem? (i := 72) rfl),
  List.forall_mem_cons.mpr ⟨js_5 (List.mem_of_getElem? (i := 73) rfl),
  List.forall_mem_cons.mpr ⟨js_5 (List.mem_of_getElem? (i := 74) rfl),
  List.forall_mem_cons.mpr ⟨js_5 (List.mem_of_getElem? (i := 75) rfl),
  List.forall_mem_cons.mpr ⟨js_5 (List.mem_of_getElem? (i := 76) rfl),
  List.forall_mem_cons.mpr ⟨js_5 (List.mem_of_getElem? (i := 77) rfl),
  List.forall_mem_cons.mpr ⟨js_5 (List.mem_of_getElem? (i := 78) rfl),
  List.forall_mem_cons.mpr ⟨js_5 (List.mem_of_getElem? (i := 80) rfl),
  List.forall_mem_cons.mpr ⟨js_5 (List.mem_of_getElem? (i := 81) rfl),
  List.forall_mem_cons.mpr ⟨js_5 (List.mem_of_getElem? (i := 82) rfl),
  List.forall_mem_cons.mpr ⟨js_5 (List.mem_of_getElem? (i := 83) rfl),
  List.forall_mem_cons.mpr ⟨js_5 (List.mem_of_getElem? (i := 84) rfl),
  List.forall_mem_cons.mpr ⟨js_5 (List.mem_of_getElem? (i := 85) rfl),
  List.forall_mem_cons.mpr ⟨js_5 (List.mem_of_getElem? (i := 86) rfl),
  List.forall_mem_cons.mpr ⟨js_5 (List.mem_of_getElem? (i := 88) rfl),
  List.forall_mem_cons.mpr ⟨js_5 (List.mem_of_getElem? (i := 89) rfl),
  fun _ h => absurd h List.not_mem_nil⟩⟩⟩⟩⟩⟩⟩⟩⟩⟩⟩⟩⟩⟩⟩⟩⟩⟩⟩⟩⟩⟩⟩⟩⟩⟩⟩⟩⟩⟩⟩⟩⟩⟩⟩⟩⟩⟩⟩⟩
set_option maxRecDepth 20000 in
theorem jTr_24 : ∀ r ∈ jT_24, jwd (jprog.map jsig) r ∈ lw_tbl := List.forall_mem_cons.mpr ⟨js_5 (List.mem_of_getElem? (i := 90) rfl),
  List.forall_mem_cons.mpr ⟨js_5 (List.mem_of_getElem? (i := 92) rfl),
  List.forall_mem_cons.mpr ⟨js_5 (List.mem_of_getElem? (i := 93) rfl),
  List.forall_mem_cons.mpr ⟨js_5 (List.mem_of_getElem? (i := 94) rfl),
  List.forall_mem_cons.mpr ⟨js_5 (List.mem_of_getElem? (i := 95) rfl),
  List.forall_mem_cons.mpr ⟨js_5 (List.mem_of_getElem? (i := 96) rfl),
  List.forall_mem_cons.mpr ⟨js_5 (List.mem_of_getElem? (i := 97) rfl),
  List.forall_mem_cons.mpr ⟨js_5 (List.mem_of_getElem? (i := 98) rfl),
  List.forall_mem_cons.mpr ⟨js_5 (List.mem_of_getElem? (i := 99) rfl),
  List.forall_mem_cons.mpr ⟨js_5 (List.mem_of_getElem? (i := 100) rfl),
  List.forall_mem_cons.mpr ⟨js_5 (List.mem_of_getElem? (i := 101) rfl),
  List.forall_mem_cons.mpr ⟨js_5 (List.mem_of_getElem? (i := 102) rfl),
  List.forall_mem_cons.mpr ⟨js_5 (List.mem_of_getElem? (i := 103) rfl),
  List.forall_mem_cons.mpr ⟨js_5 (List.mem_of_getElem? (i := 104) rfl),
  List.forall_mem_cons.mpr ⟨js_5 (List.mem_of_getElem? (i := 105) rfl),
  List.forall_mem_cons.mpr ⟨js_5 (List.mem_of_getElem? (i := 106) rfl),
  List.forall_mem_cons.mpr ⟨js_5 (List.mem_of_getElem? (i := 107) rfl),
  List.forall_mem_cons.mpr ⟨js_5 (List.mem_of_getElem? (i := 108) rfl),
  List.forall_mem_cons.mpr ⟨js_5 (List.mem_of_getElem? (i := 109) rfl),
  List.forall_mem_cons.mpr ⟨js_5 (List.mem_of_getElem? (i := 110) rfl),
  List.forall_mem_cons.mpr ⟨js_5 (List.mem_of_getElem? (i := 111) rfl),
  List.forall_mem_cons.mpr ⟨js_5 (List.mem_of_getElem? (i := 112) rfl),
  List.forall_mem_cons.mpr ⟨js_5 (List.mem_of_getElem? (i := 113) rfl),
  List.forall_mem_cons.mpr ⟨js_5 (List.mem_of_getElem? (i := 114) rfl),
  List.forall_mem_cons.mpr ⟨js_5 (List.mem_of_getElem? (i := 115) rfl),
  List.forall_mem_cons.mpr ⟨js_5 (List.mem_of_getElem? (i := 116) rfl),
  List.forall_mem_cons.mpr ⟨js_5 (List.mem_of_getElem? (i := 117) rfl),
  List.forall_mem_cons.mpr ⟨js_5 (List.mem_of_getElem? (i := 118) rfl),
  List.forall_mem_cons.mpr ⟨js_5 (List.mem_of_getElem? (i := 119) rfl),
  List.forall_mem_cons.mpr ⟨js_5 (List.mem_of_getElem? (i := 120) rfl),
  List.forall_mem_cons.mpr ⟨js_5 (List.mem_of_getElem? (i := 121) rfl),
  List.forall_mem_cons.mpr ⟨js_5 (List.mem_of_getElem? (i := 123) rfl),
  List.forall_mem_cons.mpr ⟨js_5 (List.mem_of_getElem? (i := 125) rfl),
  List.forall_mem_cons.mpr ⟨js_5 (List.mem_of_getElem? (i := 127) rfl),
  List.forall_mem_cons.mpr ⟨js_5 (List.mem_of_getElem? (i := 129) rfl),
  List.forall_mem_cons.mpr ⟨js_5 (List.mem_of_getElem? (i := 131) rfl),
  List.forall_mem_cons.mpr ⟨js_5 (List.mem_of_getElem? (i := 133) rfl),
  List.forall_mem_cons.mpr ⟨js_5 (List.mem_of_getElem? (i := 134) rfl),
  List.forall_mem_cons.mpr ⟨js_5 (List.mem_of_getElem? (i := 136) rfl),
  List.forall_mem_cons.mpr ⟨js_5 (List.mem_of_getElem? (i := 137) rfl),
  fun _ h => absurd h List.not_mem_nil⟩⟩⟩⟩⟩⟩⟩⟩⟩⟩⟩⟩⟩⟩⟩⟩⟩⟩⟩⟩⟩⟩⟩⟩⟩⟩⟩⟩⟩⟩⟩⟩⟩⟩⟩⟩⟩⟩⟩⟩
set_option maxRecDepth 20000 in
theorem jTr_25 : ∀ r ∈ jT_25, jwd (jprog.map jsig) r ∈ lw_tbl := List.forall_mem_cons.mpr ⟨js_5 (List.mem_of_getElem? (i := 138) rfl),
  List.forall_mem_cons.mpr ⟨js_5 (List.mem_of_getElem? (i := 140) rfl),
  List.forall_mem_cons.mpr ⟨js_5 (List.mem_of_getElem? (i := 141) rfl),
  List.forall_mem_cons.mpr ⟨js_5 (List.mem_of_getElem? (i := 142) rfl),
  List.forall_mem_cons.mpr ⟨js_5 (List.mem_of_getElem? (i := 144) rfl),
  List.forall_mem_cons.mpr ⟨js_5 (List.mem_of_getElem? (i := 145) rfl),
  List.forall_mem_cons.mpr ⟨js_5 (List.mem_of_getElem? (i := 146) rfl),
  List.forall_mem_cons.mpr ⟨js_5 (List.mem_of_getElem? (i := 148) rfl),
  List.forall_mem_cons.mpr ⟨js_5 (List.mem_of_getElem? (i := 150) rfl),
  List.forall_mem_cons.mpr ⟨js_5 (List.mem_of_getElem? (i := 151) rfl),
  List.forall_mem_cons.mpr ⟨js_5 (List.mem_of_getElem? (i := 152) rfl),
  List.forall_mem_cons.mpr ⟨js_5 (List.mem_of_getElem? (i := 153) rfl),
  List.forall_mem_cons.mpr ⟨js_5 (List.mem_of_getElem? (i := 155) rfl),
  List.forall_mem_cons.mpr ⟨js_5 (List.mem_of_getElem? (i := 157) rfl),
  List.forall_mem_cons.mpr ⟨js_5 (List.mem_of_getElem? (i := 158) rfl),
  List.forall_mem_cons.mpr ⟨js_5 (List.mem_of_getElem? (i := 159) rfl),
  List.forall_mem_cons.mpr ⟨js_5 (List.mem_of_getElem? (i := 160) rfl),
  List.forall_mem_cons.mpr ⟨js_5 (List.mem_of_getElem? (i := 161) rfl),
  List.forall_mem_cons.mpr ⟨js_5 (List.mem_of_getElem? (i := 163) rfl),
  List.forall_mem_cons.mpr ⟨js_5 (List.mem_of_getElem? (i := 164) rfl),
  List.forall_mem_cons.mpr ⟨js_5 (List.mem_of_getElem? (i := 165) rfl),
  List.forall_mem_cons.mpr ⟨js_5 (List.mem_of_getElem? (i := 166) rfl),
  List.forall_mem_cons.mpr ⟨js_5 (List.mem_of_getElem? (i := 167) rfl),
  List.forall_mem_cons.mpr ⟨js_5 (List.mem_of_getElem? (i := 168) rfl),
  List.forall_mem_cons.mpr ⟨js_5 (List.mem_of_getElem? (i := 169) rfl),
  List.forall_mem_cons.mpr ⟨js_5 (List.mem_of_getElem? (i := 171) rfl),
  List.forall_mem_cons.mpr ⟨js_5 (List.mem_of_getElem? (i := 172) rfl),
  List.forall_mem_cons.mpr ⟨js_5 (List.mem_of_getElem? (i := 173) rfl),
  List.forall_mem_cons.mpr ⟨js_5 (List.mem_of_getElem? (i := 174) rfl),
  List.forall_mem_cons.mpr ⟨js_5 (List.mem_of_getElem? (i := 175) rfl),
  List.forall_mem_cons.mpr ⟨js_5 (List.mem_of_getElem? (i := 176) rfl),
  List.forall_mem_cons.mpr ⟨js_5 (List.mem_of_getElem? (i := 177) rfl),
  List.forall_mem_cons.mpr ⟨js_5 (List.mem_of_getElem? (i := 178) rfl),
  List.forall_mem_cons.mpr ⟨js_5 (List.mem_of_getElem? (i := 179) rfl),
  List.forall_mem_cons.mpr ⟨js_5 (List.mem_of_getElem? (i := 180) rfl),
  List.forall_mem_cons.mpr ⟨js_5 (List.mem_of_getElem? (i := 181) rfl),
  List.forall_mem_cons.mpr ⟨js_5 (List.mem_of_getElem? (i := 182) rfl),
  List.forall_mem_cons.mpr ⟨js_5 (List.mem_of_getElem? (i := 183) rfl),
  List.forall_mem_cons.mpr ⟨js_5 (List.mem_of_getElem? (i := 184) rfl),
  List.forall_mem_cons.mpr ⟨js_5 (List.mem_of_getElem? (i := 185) rfl),
  fun _ h => absurd h List.not_mem_nil⟩⟩⟩⟩⟩⟩⟩⟩⟩⟩⟩⟩⟩⟩⟩⟩⟩⟩⟩⟩⟩⟩⟩⟩⟩⟩⟩⟩⟩⟩⟩⟩⟩⟩⟩⟩⟩⟩⟩⟩
set_option maxRecDepth 20000 in
theorem jTr_26 : ∀ r ∈ jT_26, jwd (jprog.map jsig) r ∈ lw_tbl := List.forall_mem_cons.mpr ⟨js_5 (List.mem_of_getElem? (i := 186) rfl),
  List.forall_mem_cons.mpr ⟨js_5 (List.mem_of_getElem? (i := 187) rfl),
  List.forall_mem_cons.mpr ⟨js_5 (List.mem_of_getElem? (i := 188) rfl),
  List.forall_mem_cons.mpr ⟨js_5 (List.mem_of_getElem? (i := 189) rfl),
  List.forall_mem_cons.mpr ⟨js_5 (List.mem_of_getElem? (i := 190) rfl),
  List.forall_mem_cons.mpr ⟨js_5 (List.mem_of_getElem? (i := 191) rfl),
  List.forall_mem_cons.mpr ⟨js_5 (List.mem_of_getElem? (i := 192) rfl),
  List.forall_mem_cons.mpr ⟨js_5 (List.mem_of_getElem? (i := 193) rfl),
  List.forall_mem_cons.mpr ⟨js_5 (List.mem_of_getElem? (i := 194) rfl),
  List.forall_mem_cons.mpr ⟨js_5 (List.mem_of_getElem? (i := 195) rfl),
  List.forall_mem_cons.mpr ⟨js_5 (List.mem_of_getElem? (i := 196) rfl),
  List.forall_mem_cons.mpr ⟨js_5 (List.mem_of_getElem? (i := 197) rfl),
  List.forall_mem_cons.mpr ⟨js_5 (List.mem_of_getElem? (i := 198) rfl),
  List.forall_mem_cons.mpr ⟨js_5 (List.mem_of_getElem? (i := 199) rfl),
  List.forall_mem_cons.mpr ⟨js_5 (List.mem_of_getElem? (i := 200) rfl),
  List.forall_mem_cons.mpr ⟨js_5 (List.mem_of_getElem? (i := 201) rfl),
  List.forall_mem_cons.mpr ⟨js_5 (List.mem_of_getElem? (i := 202) rfl),
  List.forall_mem_cons.mpr ⟨js_5 (List.mem_of_getElem? (i := 203) rfl),
  List.forall_mem_cons.mpr ⟨js_5 (List.mem_of_getElem? (i := 204) rfl),
  List.forall_mem_cons.mpr ⟨js_5 (List.mem_of_getElem? (i := 205) rfl),
  List.forall_mem_cons.mpr ⟨js_5 (List.mem_of_getElem? (i := 206) rfl),
  List.forall_mem_cons.mpr ⟨js_5 (List.mem_of_getElem? (i := 207) rfl),
  List.forall_mem_cons.mpr ⟨js_5 (List.mem_of_getElem? (i := 208) rfl),
  List.forall_mem_cons.mpr ⟨js_5 (List.mem_of_getElem? (i := 209) rfl),
  List.forall_mem_cons.mpr ⟨js_5 (List.mem_of_getElem? (i := 210) rfl),
  List.forall_mem_cons.mpr ⟨js_5 (List.mem_of_getElem? (i := 211) rfl),
  List.forall_mem_cons.mpr ⟨js_5 (List.mem_of_getElem? (i := 212) rfl),
  List.forall_mem_cons.mpr ⟨js_5 (List.mem_of_getElem? (i := 214) rfl),
  List.forall_mem_cons.mpr ⟨js_5 (List.mem_of_getElem? (i := 215) rfl),
  List.forall_mem_cons.mpr ⟨js_5 (List.mem_of_getElem? (i := 216) rfl),
  List.forall_mem_cons.mpr ⟨js_5 (List.mem_of_getElem? (i := 217) rfl),
  List.forall_mem_cons.mpr ⟨js_5 (List.mem_of_getElem? (i := 218) rfl),
  List.forall_mem_cons.mpr ⟨js_5 (List.mem_of_getElem? (i := 219) rfl),
  List.forall_mem_cons.mpr ⟨js_5 (List.mem_of_getElem? (i := 220) rfl),
  List.forall_mem_cons.mpr ⟨js_5 (List.mem_of_getElem? (i := 221) rfl),
  List.forall_mem_cons.mpr ⟨js_5 (List.mem_of_getElem? (i := 222) rfl),
  List.forall_mem_cons.mpr ⟨js_5 (List.mem_of_getElem? (i := 223) rfl),
  List.forall_mem_cons.mpr ⟨js_5 (List.mem_of_getElem? (i := 224) rfl),
  List.forall_mem_cons.mpr ⟨js_5 (List.mem_of_getElem? (i := 225) rfl),
  List.forall_mem_cons.mpr ⟨js_5 (List.mem_of_getElem? (i := 226) rfl),
  fun _ h => absurd h List.not_mem_nil⟩⟩⟩⟩⟩⟩⟩⟩⟩⟩⟩⟩⟩⟩⟩⟩⟩⟩⟩⟩⟩⟩⟩⟩⟩⟩⟩⟩⟩⟩⟩⟩⟩⟩⟩⟩⟩⟩⟩⟩
set_option maxRecDepth 20000 in
theorem jTr_27 : ∀ r ∈ jT_27, jwd (jprog.map jsig) r ∈ lw_tbl := List.forall_mem_cons.mpr ⟨js_5 (List.mem_of_getElem? (i := 227) rfl),
  List.forall_mem_cons.mpr ⟨js_5 (List.mem_of_getElem? (i := 228) rfl),
  List.forall_mem_cons.mpr ⟨js_5 (List.mem_of_getElem? (i := 229) rfl),
  List.forall_mem_cons.mpr ⟨js_5 (List.mem_of_getElem? (i := 230) rfl),
  List.forall_mem_cons.mpr ⟨js_5 (List.mem_of_getElem? (i := 231) rfl),
  List.forall_mem_cons.mpr ⟨js_5 (List.mem_of_getElem? (i := 232) rfl),
  List.forall_mem_cons.mpr ⟨js_5 (List.mem_of_getElem? (i := 233) rfl),
  List.forall_mem_cons.mpr ⟨js_5 (List.mem_of_getElem? (i := 234) rfl),
  List.forall_mem_cons.mpr ⟨js_5 (List.mem_of_getElem? (i := 236) rfl),
  List.forall_mem_cons.mpr ⟨js_5 (List.mem_of_getElem? (i := 238) rfl),
  List.forall_mem_cons.mpr ⟨js_5 (List.mem_of_getElem? (i := 239) rfl),
  List.forall_mem_cons.mpr ⟨js_6 (List.mem_of_getElem? (i := 1) rfl),
  List.forall_mem_cons.mpr ⟨js_6 (List.mem_of_getElem? (i := 2) rfl),
  List.forall_mem_cons.mpr ⟨js_6 (List.mem_of_getElem? (i := 3) rfl),
  List.forall_mem_cons.mpr ⟨js_6 (List.mem_of_getElem? (i := 5) rfl),
  List.forall_mem_cons.mpr ⟨js_6 (List.mem_of_getElem? (i := 6) rfl),
  List.forall_mem_cons.mpr ⟨js_6 (List.mem_of_getElem? (i := 7) rfl),
  List.forall_mem_cons.mpr ⟨js_6 (List.mem_of_getElem? (i := 9) rfl),
  List.forall_mem_cons.mpr ⟨js_6 (List.mem_of_getElem? (i := 10) rfl),
  List.forall_mem_cons.mpr ⟨js_6 (List.mem_of_getElem? (i := 11) rfl),
  List.forall_mem_cons.mpr ⟨js_6 (List.mem_of_getElem? (i := 13) rfl),
  List.forall_mem_cons.mpr ⟨js_6 (List.mem_of_getElem? (i := 14) rfl),
  List.forall_mem_cons.mpr ⟨js_6 (List.mem_of_getElem? (i := 15) rfl),
  List.forall_mem_cons.mpr ⟨js_6 (List.mem_of_getElem? (i := 16) rfl),
  List.forall_mem_cons.mpr ⟨js_6 (List.mem_of_getElem? (i := 17) rfl),
  List.forall_mem_cons.mpr ⟨js_6 (List.mem_of_getElem? (i := 18) rfl),
  List.forall_mem_cons.mpr ⟨js_6 (List.mem_of_getElem? (i := 20) rfl),
  List.forall_mem_cons.mpr ⟨js_6 (List.mem_of_getElem? (i := 21) rfl),
  List.forall_mem_cons.mpr ⟨js_6 (List.mem_of_getElem? (i := 22) rfl),
  List.forall_mem_cons.mpr ⟨js_6 (List.mem_of_getElem? (i := 24) rfl),
  List.forall_mem_cons.mpr ⟨js_6 (List.mem_of_getElem? (i := 25) rfl),
  List.forall_mem_cons.mpr ⟨js_6 (List.mem_of_getElem? (i := 26) rfl),
  List.forall_mem_cons.mpr ⟨js_6 (List.mem_of_getElem? (i := 27) rfl),
  List.forall_mem_cons.mpr ⟨js_6 (List.mem_of_getElem? (i := 28) rfl),
  List.forall_mem_cons.mpr ⟨js_6 (List.mem_of_getElem? (i := 29) rfl),
  List.forall_mem_cons.mpr ⟨js_6 (List.mem_of_getElem? (i := 30) rfl),
  List.forall_mem_cons.mpr ⟨js_6 (List.mem_of_getElem? (i := 31) rfl),
  List.forall_mem_cons.mpr ⟨js_6 (List.mem_of_getElem? (i := 32) rfl),
  List.forall_mem_cons.mpr ⟨js_6 (List.mem_of_getElem? (i := 34) rfl),
  List.forall_mem_cons.mpr ⟨js_6 (List.mem_of_getElem? (i := 35) rfl),
  fun _ h => absurd h List.not_mem_nil⟩⟩⟩⟩⟩⟩⟩⟩⟩⟩⟩⟩⟩⟩⟩⟩⟩⟩⟩⟩⟩⟩⟩⟩⟩⟩⟩⟩⟩⟩⟩⟩⟩⟩⟩⟩⟩⟩⟩⟩
set_option maxRecDepth 20000 in
theorem jTr_28 : ∀ r ∈ jT_28, jwd (jprog.map jsig) r ∈ lw_tbl := List.forall_mem_cons.mpr ⟨js_6 (List.mem_of_getElem? (i := 36) rfl),
  List.forall_mem_cons.mpr ⟨js_6 (List.mem_of_getElem? (i := 38) rfl),
  List.forall_mem_cons.mpr ⟨js_6 (List.mem_of_getElem? (i := 39) rfl),
  List.forall_mem_cons.mpr ⟨js_6 (List.mem_of_getElem? (i := 40) rfl),
  List.forall_mem_cons.mpr ⟨js_6 (List.mem_of_getElem? (i := 42) rfl),
  List.forall_mem_cons.mpr ⟨js_6 (List.mem_of_getElem? (i := 43) rfl),
  List.forall_mem_cons.mpr ⟨js_6 (List.mem_of_getElem? (i := 44) rfl),
  List.forall_mem_cons.mpr ⟨js_6 (List.mem_of_getElem? (i := 46) rfl),
  List.forall_mem_cons.mpr ⟨js_6 (List.mem_of_getElem? (i := 47) rfl),
  List.forall_mem_cons.mpr ⟨js_6 (List.mem_of_getElem? (i := 48) rfl),
  List.forall_mem_cons.mpr ⟨js_6 (List.mem_of_getElem? (i := 50) rfl),
  List.forall_mem_cons.mpr ⟨js_6 (List.mem_of_getElem? (i := 51) rfl),
  List.forall_mem_cons.mpr ⟨js_6 (List.mem_of_getElem? (i := 52) rfl),
  List.forall_mem_cons.mpr ⟨js_6 (List.mem_of_getElem? (i := 54) rfl),
  List.forall_mem_cons.mpr ⟨js_6 (List.mem_of_getElem? (i := 55) rfl),
  List.forall_mem_cons.mpr ⟨js_6 (List.mem_of_getElem? (i := 56) rfl),
  List.forall_mem_cons.mpr ⟨js_6 (List.mem_of_getElem? (i := 58) rfl),
  List.forall_mem_cons.mpr ⟨js_6 (List.mem_of_getElem? (i := 59) rfl),
  List.forall_mem_cons.mpr ⟨js_6 (List.mem_of_getElem? (i := 60) rfl),
  List.forall_mem_cons.mpr ⟨js_6 (List.mem_of_getElem? (i := 61) rfl),
  List.forall_mem_cons.mpr ⟨js_6 (List.mem_of_getElem? (i := 62) rfl),
  List.forall_mem_cons.mpr ⟨js_6 (List.mem_of_getElem? (i := 64) rfl),
  List.forall_mem_cons.mpr ⟨js_6 (List.mem_of_getElem? (i := 65) rfl),
  List.forall_mem_cons.mpr ⟨js_6 (List.mem_of_getElem? (i := 66) rfl),
  List.forall_mem_cons.mpr ⟨js_6 (List.mem_of_getElem? (i := 68) rfl),
  List.forall_mem_cons.mpr ⟨js_6 (List.mem_of_getElem? (i := 69) rfl),
  List.forall_mem_cons.mpr ⟨js_6 (List.mem_of_getElem? (i := 70) rfl),
  List.forall_mem_cons.mpr ⟨js_6 (List.mem_of_getElem? (i := 72) rfl),
  List.forall_mem_cons.mpr ⟨js_6 (List.mem_of_getElem? (i := 73) rfl),
  List.forall_mem_cons.mpr ⟨js_6 (List.mem_of_getElem? (i := 74) rfl),
  List.forall_mem_cons.mpr ⟨js_6 (List.mem_of_getElem? (i := 76) rfl),
  List.forall_mem_cons.mpr ⟨js_6 (List.mem_of_getElem? (i := 77) rfl),
  List.forall_mem_cons.mpr ⟨js_6 (List.mem_of_getElem? (i := 78) rfl),
  List.forall_mem_cons.mpr ⟨js_6 (List.mem_of_getElem? (i := 80) rfl),
  List.forall_mem_cons.mpr ⟨js_6 (List.mem_of_getElem? (i := 81) rfl),
  List.forall_mem_cons.mpr ⟨js_6 (List.mem_of_getElem? (i := 82) rfl),
  List.forall_mem_cons.mpr ⟨js_6 (List.mem_of_getElem? (i := 84) rfl),
  List.forall_mem_cons.mpr ⟨js_6 (List.mem_of_getElem? (i := 85) rfl),
  List.forall_mem_cons.mpr ⟨js_6 (List.mem_of_getElem? (i := 86) rfl),
  List.forall_mem_cons.mpr ⟨js_6 (List.mem_of_getElem? (i := 88) rfl),
  fun _ h => absurd h List.not_mem_nil⟩⟩⟩⟩⟩⟩⟩⟩⟩⟩⟩⟩⟩⟩⟩⟩⟩⟩⟩⟩⟩⟩⟩⟩⟩⟩⟩⟩⟩⟩⟩⟩⟩⟩⟩⟩⟩⟩⟩⟩
set_option maxRecDepth 20000 in
theorem jTr_29 : ∀ r ∈ jT_29, jwd (jprog.map jsig) r ∈ lw_tbl := List.forall_mem_cons.mpr ⟨js_6 (List.mem_of_getElem? (i := 89) rfl),
  List.forall_mem_cons.mpr ⟨js_6 (List.mem_of_getElem? (i := 90) rfl),
  List.forall_mem_cons.mpr ⟨js_6 (List.mem_of_getElem? (i := 92) rfl),
  List.forall_mem_cons.mpr ⟨js_6 (List.mem_of_getElem? (i := 93) rfl),
  List.forall_mem_cons.mpr ⟨js_6 (List.mem_of_getElem? (i := 94) rfl),
  List.forall_mem_cons.mpr ⟨js_6 (List.mem_of_getElem? (i := 96) rfl),
  List.forall_mem_cons.mpr ⟨js_6 (List.mem_of_getElem? (i := 97) rfl),
  List.forall_mem_cons.mpr ⟨js_6 (List.mem_of_getElem? (i := 98) rfl),
  List.forall_mem_cons.mpr ⟨js_6 (List.mem_of_getElem? (i := 100) rfl),
  List.forall_mem_cons.mpr ⟨js_6 (List.mem_of_getElem? (i := 101) rfl),
  List.forall_mem_cons.mpr ⟨js_6 (List.mem_of_getElem? (i := 102) rfl),
  List.forall_mem_cons.mpr ⟨js_6 (List.mem_of_getElem? (i := 104) rfl),
  List.forall_mem_cons.mpr ⟨js_6 (List.mem_of_getElem? (i := 105) rfl),
  List.forall_mem_cons.mpr ⟨js_6 (List.mem_of_getElem? (i := 106) rfl),
  List.forall_mem_cons.mpr ⟨js_6 (List.mem_of_getElem? (i := 108) rfl),
  List.forall_mem_cons.mpr ⟨js_6 (List.mem_of_getElem? (i := 109) rfl),
  List.forall_mem_cons.mpr ⟨js_6 (List.mem_of_getElem? (i := 110) rfl),
  List.forall_mem_cons.mpr ⟨js_6 (List.mem_of_getElem? (i := 112) rfl),
  List.forall_mem_cons.mpr ⟨js_6 (List.mem_of_getElem? (i := 113) rfl),
  List.forall_mem_cons.mpr ⟨js_6 (List.mem_of_getElem? (i := 114) rfl),
  List.forall_mem_cons.mpr ⟨js_6 (List.mem_of_getElem? (i := 116) rfl),
  List.forall_mem_cons.mpr ⟨js_6 (List.mem_of_getElem? (i := 117) rfl),
  List.forall_mem_cons.mpr ⟨js_6 (List.mem_of_getElem? (i := 118) rfl),
  List.forall_mem_cons.mpr ⟨js_6 (List.mem_of_getElem? (i := 120) rfl),
  List.forall_mem_cons.mpr ⟨js_6 (List.mem_of_getElem? (i := 121) rfl),
  List.forall_mem_cons.mpr ⟨js_6 (List.mem_of_getElem? (i := 122) rfl),
  List.forall_mem_cons.mpr ⟨js_6 (List.mem_of_getElem? (i := 124) rfl),
  List.forall_mem_cons.mpr ⟨js_6 (List.mem_of_getElem? (i := 125) rfl),
  List.forall_mem_cons.mpr ⟨js_6 (List.mem_of_getElem? (i := 126) rfl),
  List.forall_mem_cons.mpr ⟨js_6 (List.mem_of_getElem? (i := 128) rfl),
  List.forall_mem_cons.mpr ⟨js_6 (List.mem_of_getElem? (i := 129) rfl),
  List.forall_mem_cons.mpr ⟨js_6 (List.mem_of_getElem? (i := 130) rfl),
  List.forall_mem_cons.mpr ⟨js_6 (List.mem_of_getElem? (i := 131) rfl),
  List.forall_mem_cons.mpr ⟨js_6 (List.mem_of_getElem? (i := 132) rfl),
  List.forall_mem_cons.mpr ⟨js_6 (List.mem_of_getElem? (i := 133) rfl),
  List.forall_mem_cons.mpr ⟨js_6 (List.mem_of_getElem? (i := 135) rfl),
  List.forall_mem_cons.mpr ⟨js_6 (List.mem_of_getElem? (i := 136) rfl),
  List.forall_mem_cons.mpr ⟨js_6 (List.mem_of_getElem? (i := 137) rfl),
  List.forall_mem_cons.mpr ⟨js_6 (List.mem_of_getElem? (i := 139) rfl),
  List.forall_mem_cons.mpr ⟨js_6 (List.mem_of_getElem? (i := 140) rfl),
  fun _ h => absurd h List.not_mem_nil⟩⟩⟩⟩⟩⟩⟩⟩⟩⟩⟩⟩⟩⟩⟩⟩⟩⟩⟩⟩⟩⟩⟩⟩⟩⟩⟩⟩⟩⟩⟩⟩⟩⟩⟩⟩⟩⟩⟩⟩
set_option maxRecDepth 20000 in
theorem jTr_30 : ∀ r ∈ jT_30, jwd (jprog.map jsig) r ∈ lw_tbl := List.forall_mem_cons.mpr ⟨js_6 (List.mem_of_getElem? (i := 141) rfl),
  List.forall_mem_cons.mpr ⟨js_6 (List.mem_of_getElem? (i := 143) rfl),
  List.forall_mem_cons.mpr ⟨js_6 (List.mem_of_getElem? (i := 144) rfl),
  List.forall_mem_cons.mpr ⟨js_6 (List.mem_of_getElem? (i := 145) rfl),
  List.forall_mem_cons.mpr ⟨js_6 (List.mem_of_getElem? (i := 146) rfl),
  List.forall_mem_cons.mpr ⟨js_6 (List.mem_of_getElem? (i := 147) rfl),
  List.forall_mem_cons.mpr ⟨js_6 (List.mem_of_getElem? (i := 148) rfl),
  List.forall_mem_cons.mpr ⟨js_6 (List.mem_of_getElem? (i := 149) rfl),
  List.forall_mem_cons.mpr ⟨js_6 (List.mem_of_getElem? (i := 150) rfl),
  List.forall_mem_cons.mpr ⟨js_6 (List.mem_of_getElem? (i := 151) rfl),
  List.forall_mem_cons.mpr ⟨js_6 (List.mem_of_getElem? (i := 152) rfl),
  List.forall_mem_cons.mpr ⟨js_6 (List.mem_of_getElem? (i := 153) rfl),
  List.forall_mem_cons.mpr ⟨js_6 (List.mem_of_getElem? (i := 154) rfl),
  List.forall_mem_cons.mpr ⟨js_6 (List.mem_of_getElem? (i := 155) rfl),
  List.forall_mem_cons.mpr ⟨js_6 (List.mem_of_getElem? (i := 156) rfl),
  List.forall_mem_cons.mpr ⟨js_6 (List.mem_of_getElem? (i := 157) rfl),
  List.forall_mem_cons.mpr ⟨js_6 (List.mem_of_getElem? (i := 158) rfl),
  List.forall_mem_cons.mpr ⟨js_6 (List.mem_of_getElem? (i := 159) rfl),
  List.forall_mem_cons.mpr ⟨js_6 (List.mem_of_getElem? (i := 160) rfl),
  List.forall_mem_cons.mpr ⟨js_6 (List.mem_of_getElem? (i := 161) rfl),
  List.forall_mem_cons.mpr ⟨js_6 (List.mem_of_getElem? (i := 162) rfl),
  List.forall_mem_cons.mpr ⟨js_6 (List.mem_of_getElem? (i := 163) rfl),
  List.forall_mem_cons.mpr ⟨js_6 (List.mem_of_getElem? (i := 164) rfl),
  List.forall_mem_cons.mpr ⟨js_6 (List.mem_of_getElem? (i := 165) rfl),
  List.forall_mem_cons.mpr ⟨js_6 (List.mem_of_getElem? (i := 166) rfl),
  List.forall_mem_cons.mpr ⟨js_6 (List.mem_of_getElem? (i := 167) rfl),
  List.forall_mem_cons.mpr ⟨js_6 (List.mem_of_getElem? (i := 168) rfl),
  List.forall_mem_cons.mpr ⟨js_6 (List.mem_of_getElem? (i := 169) rfl),
  List.forall_mem_cons.mpr ⟨js_6 (List.mem_of_getElem? (i := 170) rfl),
  List.forall_mem_cons.mpr ⟨js_6 (List.mem_of_getElem? (i := 171) rfl),
  List.forall_mem_cons.mpr ⟨js_6 (List.mem_of_getElem? (i := 172) rfl),
  List.forall_mem_cons.mpr ⟨js_6 (List.mem_of_getElem? (i := 173) rfl),
  List.forall_mem_cons.mpr ⟨js_6 (List.mem_of_getElem? (i := 174) rfl),
  List.forall_mem_cons.mpr ⟨js_6 (List.mem_of_getElem? (i := 175) rfl),
  List.forall_mem_cons.mpr ⟨js_6 (List.mem_of_getElem? (i := 176) rfl),
  List.forall_mem_cons.mpr ⟨js_6 (List.mem_of_getElem? (i := 177) rfl),
  List.forall_mem_cons.mpr ⟨js_6 (List.mem_of_getElem? (i := 178) rfl),
  List.forall_mem_cons.mpr ⟨js_6 (List.mem_of_getElem? (i := 179) rfl),
  List.forall_mem_cons.mpr ⟨js_6 (List.mem_of_getElem? (i := 180) rfl),
  List.forall_mem_cons.mpr ⟨js_6 (List.mem_of_getElem? (i := 181) rfl),
  fun _ h => absurd h List.not_mem_nil⟩⟩⟩⟩⟩⟩⟩⟩⟩⟩⟩⟩⟩⟩⟩⟩⟩⟩⟩⟩⟩⟩⟩⟩⟩⟩⟩⟩⟩⟩⟩⟩⟩⟩⟩⟩⟩⟩⟩⟩
set_option maxRecDepth 20000 in
theorem jTr_31 : ∀ r ∈ jT_31, jwd (jprog.map jsig) r ∈ lw_tbl := List.forall_mem_cons.mpr ⟨js_6 (List.mem_of_getElem? (i := 182) rfl),
  List.forall_mem_cons.mpr ⟨js_6 (List.mem_of_getElem? (i := 183) rfl),
  List.forall_mem_cons.mpr ⟨js_6 (List.mem_of_getElem? (i := 184) rfl),
  List.forall_mem_cons.mpr ⟨js_6 (List.mem_of_getElem? (i := 185) rfl),
  List.forall_mem_cons.mpr ⟨js_6 (List.mem_of_getElem? (i := 186) rfl),
  List.forall_mem_cons.mpr ⟨js_6 (List.mem_of_getElem? (i := 187) rfl),
  List.forall_mem_cons.mpr ⟨js_6 (List.mem_of_getElem? (i := 188) rfl),
  List.forall_mem_cons.mpr ⟨js_6 (List.mem_of_getElem? (i := 189) rfl),
  List.forall_mem_cons.mpr ⟨js_6 (List.mem_of_getElem? (i := 190) rfl),
  List.forall_mem_cons.mpr ⟨js_6 (List.mem_of_getElem? (i := 191) rfl),
  List.forall_mem_cons.mpr ⟨js_6 (List.mem_of_getElem? (i := 192) rfl),
  List.forall_mem_cons.mpr ⟨js_6 (List.mem_of_getElem? (i := 193) rfl),
  List.forall_mem_cons.mpr ⟨js_6 (List.mem_of_getElem? (i := 194) rfl),
  List.forall_mem_cons.mpr ⟨js_6 (List.mem_of_getElem? (i := 195) rfl),
  List.forall_mem_cons.mpr ⟨js_6 (List.mem_of_getElem? (i := 196) rfl),
  List.forall_mem_cons.mpr ⟨js_6 (List.mem_of_getElem? (i := 197) rfl),
  List.forall_mem_cons.mpr ⟨js_6 (List.mem_of_getElem? (i := 198) rfl),
  List.forall_mem_cons.mpr ⟨js_6 (List.mem_of_getElem? (i := 199) rfl),
  List.forall_mem_cons.mpr ⟨js_6 (List.mem_of_getElem? (i := 200) rfl),
  List.forall_mem_cons.mpr ⟨js_6 (List.mem_of_getElem? (i := 201) rfl),
  List.forall_mem_cons.mpr ⟨js_6 (List.mem_of_getElem? (i := 202) rfl),
  List.forall_mem_cons.mpr ⟨js_6 (List.mem_of_getElem? (i := 203) rfl),
  List.forall_mem_cons.mpr ⟨js_6 (List.mem_of_getElem? (i := 204) rfl),
  List.forall_mem_cons.mpr ⟨js_6 (List.mem_of_getElem? (i := 205) rfl),
  List.forall_mem_cons.mpr ⟨js_6 (List.mem_of_getElem? (i := 206) rfl),
  List.forall_mem_cons.mpr ⟨js_6 (List.mem_of_getElem? (i := 207) rfl),
  List.forall_mem_cons.mpr ⟨js_6 (List.mem_of_getElem? (i := 208) rfl),
  List.forall_mem_cons.mpr ⟨js_6 (List.mem_of_getElem? (i := 209) rfl),
  List.forall_mem_cons.mpr ⟨js_6 (List.mem_of_getElem? (i := 210) rfl),
  List.forall_mem_cons.mpr ⟨js_6 (List.mem_of_getElem? (i := 211) rfl),
  List.forall_mem_cons.mpr ⟨js_6 (List.mem_of_getElem? (i := 212) rfl),
  List.forall_mem_cons.mpr ⟨js_6 (List.mem_of_getElem? (i := 213) rfl),
  List.forall_mem_cons.mpr ⟨js_6 (List.mem_of_getElem? (i := 214) rfl),
  List.forall_mem_cons.mpr ⟨js_6 (List.mem_of_getElem? (i := 215) rfl),
  List.forall_mem_cons.mpr ⟨js_6 (List.mem_of_getElem? (i := 216) rfl),
  List.forall_mem_cons.mpr ⟨js_6 (List.mem_of_getElem? (i := 217) rfl),
  List.forall_mem_cons.mpr ⟨js_6 (List.mem_of_getElem? (i := 218) rfl),
  List.forall_mem_cons.mpr ⟨js_6 (List.mem_of_getElem? (i := 219) rfl),
  List.forall_mem_cons.mpr ⟨js_6 (List.mem_of_getElem? (i := 220) rfl),
  List.forall_mem_cons.mpr ⟨js_6 (List.mem_of_getElem? (i := 221) rfl),
  fun _ h => absurd h List.not_mem_nil⟩⟩⟩⟩⟩⟩⟩⟩⟩⟩⟩⟩⟩⟩⟩⟩⟩⟩⟩⟩⟩⟩⟩⟩⟩⟩⟩⟩⟩⟩⟩⟩⟩⟩⟩⟩⟩⟩⟩⟩
set_option maxRecDepth 20000 in
theorem jTr_32 : ∀ r ∈ jT_32, jwd (jprog.map jsig) r ∈ lw_tbl := List.forall_mem_cons.mpr ⟨js_6 (List.mem_of_getElem? (i := 222) rfl),
  List.forall_mem_cons.mpr ⟨js_6 (List.mem_of_getElem? (i := 223) rfl),
  List.forall_mem_cons.mpr ⟨js_6 (List.mem_of_getElem? (i := 224) rfl),
  List.forall_mem_cons.mpr ⟨js_6 (List.mem_of_getElem? (i := 225) rfl),
  List.forall_mem_cons.mpr ⟨js_6 (List.mem_of_getElem? (i := 226) rfl),
  List.forall_mem_cons.mpr ⟨js_6 (List.mem_of_getElem? (i := 227) rfl),
  List.forall_mem_cons.mpr ⟨js_6 (List.mem_of_getElem? (i := 228) rfl),
  List.forall_mem_cons.mpr ⟨js_6 (List.mem_of_getElem? (i := 229) rfl),
  List.forall_mem_cons.mpr ⟨js_6 (List.mem_of_getElem? (i := 230) rfl),
  List.forall_mem_cons.mpr ⟨js_6 (List.mem_of_getElem? (i := 231) rfl),
  List.forall_mem_cons.mpr ⟨js_6 (List.mem_of_getElem? (i := 232) rfl),
  List.forall_mem_cons.mpr ⟨js_6 (List.mem_of_getElem? (i := 233) rfl),
  List.forall_mem_cons.mpr ⟨js_6 (List.mem_of_getElem? (i := 234) rfl),
  List.forall_mem_cons.mpr ⟨js_6 (List.mem_of_getElem? (i := 235) rfl),
  List.forall_mem_cons.mpr ⟨js_6 (List.mem_of_getElem? (i := 236) rfl),
  List.forall_mem_cons.mpr ⟨js_6 (List.mem_of_getElem? (i := 237) rfl),
  List.forall_mem_cons.mpr ⟨js_6 (List.mem_of_getElem? (i := 238) rfl),
  List.forall_mem_cons.mpr ⟨js_6 (List.mem_of_getElem? (i := 239) rfl),
  List.forall_mem_cons.mpr ⟨js_7 (List.mem_of_getElem? (i := 0) rfl),
  List.forall_mem_cons.mpr ⟨js_7 (List.mem_of_getElem? (i := 1) rfl),
  List.forall_mem_cons.mpr ⟨js_7 (List.mem_of_getElem? (i := 2) rfl),
  List.forall_mem_cons.mpr ⟨js_7 (List.mem_of_getElem? (i := 3) rfl),
  List.forall_mem_cons.mpr ⟨js_7 (List.mem_of_getElem? (i := 4) rfl),
  List.forall_mem_cons.mpr ⟨js_7 (List.mem_of_getElem? (i := 189) rfl),
  List.forall_mem_cons.mpr ⟨js_7 (List.mem_of_getElem? (i := 190) rfl),
  List.forall_mem_cons.mpr ⟨js_7 (List.mem_of_getElem? (i := 191) rfl),
  List.forall_mem_cons.mpr ⟨js_7 (List.mem_of_getElem? (i := 192) rfl),
  List.forall_mem_cons.mpr ⟨js_7 (List.mem_of_getElem? (i := 193) rfl),
  List.forall_mem_cons.mpr ⟨js_7 (List.mem_of_getElem? (i := 195) rfl),
  List.forall_mem_cons.mpr ⟨js_7 (List.mem_of_getElem? (i := 196) rfl),
  List.forall_mem_cons.mpr ⟨js_7 (List.mem_of_getElem? (i := 197) rfl),
  List.forall_mem_cons.mpr ⟨js_7 (List.mem_of_getElem? (i := 199) rfl),
  List.forall_mem_cons.mpr ⟨js_7 (List.mem_of_getElem? (i := 200) rfl),
  List.forall_mem_cons.mpr ⟨js_7 (List.mem_of_getElem? (i := 201) rfl),
  List.forall_mem_cons.mpr ⟨js_7 (List.mem_of_getElem? (i := 203) rfl),
  List.forall_mem_cons.mpr ⟨js_7 (List.mem_of_getElem? (i := 204) rfl),
  List.forall_mem_cons.mpr ⟨js_7 (List.mem_of_getElem? (i := 205) rfl),
  List.forall_mem_cons.mpr ⟨js_7 (List.mem_of_getElem? (i := 207) rfl),
  List.forall_mem_cons.mpr ⟨js_7 (List.mem_of_getElem? (i := 208) rfl),
  List.forall_mem_cons.mpr ⟨js_7 (List.mem_of_getElem? (i := 209) rfl),
  fun _ h => absurd h List.not_mem_nil⟩⟩⟩⟩⟩⟩⟩⟩⟩⟩⟩⟩⟩⟩⟩⟩⟩⟩⟩⟩⟩⟩⟩⟩⟩⟩⟩⟩⟩⟩⟩⟩⟩⟩⟩⟩⟩⟩⟩⟩
set_option maxRecDepth 20000 in
theorem jTr_33 : ∀ r ∈ jT_33, jwd (jprog.map jsig) r ∈ lw_tbl := List.forall_mem_cons.mpr ⟨js_7 (List.mem_of_getElem? (i := 210) rfl),
  List.forall_mem_cons.mpr ⟨js_7 (List.mem_of_getElem? (i := 211) rfl),
  List.forall_mem_cons.mpr ⟨js_7 (List.mem_of_getElem? (i := 212) rfl),
  List.forall_mem_cons.mpr ⟨js_7 (List.mem_of_getElem? (i := 214) rfl),
  List.forall_mem_cons.mpr ⟨js_7 (List.mem_of_getElem? (i := 215) rfl),
  List.forall_mem_cons.mpr ⟨js_7 (List.mem_of_getElem? (i := 216) rfl),
  List.forall_mem_cons.mpr ⟨js_7 (List.mem_of_getElem? (i := 218) rfl),
  List.forall_mem_cons.mpr ⟨js_7 (List.mem_of_getElem? (i := 219) rfl),
  List.forall_mem_cons.mpr ⟨js_7 (List.mem_of_getElem? (i := 220) rfl),
  List.forall_mem_cons.mpr ⟨js_7 (List.mem_of_getElem? (i := 222) rfl),
  List.forall_mem_cons.mpr ⟨js_7 (List.mem_of_getElem? (i := 223) rfl),
  List.forall_mem_cons.mpr ⟨js_7 (List.mem_of_getElem? (i := 224) rfl),
  List.forall_mem_cons.mpr ⟨js_7 (List.mem_of_getElem? (i := 225) rfl),
  List.forall_mem_cons.mpr ⟨js_7 (List.mem_of_getElem? (i := 226) rfl),
  List.forall_mem_cons.mpr ⟨js_7 (List.mem_of_getElem? (i := 227) rfl),
  List.forall_mem_cons.mpr ⟨js_7 (List.mem_of_getElem? (i := 228) rfl),
  List.forall_mem_cons.mpr ⟨js_7 (List.mem_of_getElem? (i := 230) rfl),
  List.forall_mem_cons.mpr ⟨js_7 (List.mem_of_getElem? (i := 231) rfl),
  List.forall_mem_cons.mpr ⟨js_7 (List.mem_of_getElem? (i := 232) rfl),
  List.forall_mem_cons.mpr ⟨js_7 (List.mem_of_getElem? (i := 233) rfl),
  List.forall_mem_cons.mpr ⟨js_7 (List.mem_of_getElem? (i := 234) rfl),
  List.forall_mem_cons.mpr ⟨js_7 (List.mem_of_getElem? (i := 235) rfl),
  List.forall_mem_cons.mpr ⟨js_7 (List.mem_of_getElem? (i := 236) rfl),
  List.forall_mem_cons.mpr ⟨js_7 (List.mem_of_getElem? (i := 237) rfl),
  List.forall_mem_cons.mpr ⟨js_7 (List.mem_of_getElem? (i := 239) rfl),
  List.forall_mem_cons.mpr ⟨js_8 (List.mem_of_getElem? (i := 0) rfl),
  List.forall_mem_cons.mpr ⟨js_8 (List.mem_of_getElem? (i := 1) rfl),
  List.forall_mem_cons.mpr ⟨js_8 (List.mem_of_getElem? (i := 3) rfl),
  List.forall_mem_cons.mpr ⟨js_8 (List.mem_of_getElem? (i := 4) rfl),
  List.forall_mem_cons.mpr ⟨js_8 (List.mem_of_getElem? (i := 5) rfl),
  List.forall_mem_cons.mpr ⟨js_8 (List.mem_of_getElem? (i := 7) rfl),
  List.forall_mem_cons.mpr ⟨js_8 (List.mem_of_getElem? (i := 8) rfl),
  List.forall_mem_cons.mpr ⟨js_8 (List.mem_of_getElem? (i := 9) rfl),
  List.forall_mem_cons.mpr ⟨js_8 (List.mem_of_getElem? (i := 11) rfl),
  List.forall_mem_cons.mpr ⟨js_8 (List.mem_of_getElem? (i := 12) rfl),
  List.forall_mem_cons.mpr ⟨js_8 (List.mem_of_getElem? (i := 13) rfl),
  List.forall_mem_cons.mpr ⟨js_8 (List.mem_of_getElem? (i := 15) rfl),
  List.forall_mem_cons.mpr ⟨js_8 (List.mem_of_getElem? (i := 16) rfl),
  List.forall_mem_cons.mpr ⟨js_8 (List.mem_of_getElem? (i := 17) rfl),
  List.forall_mem_cons.mpr ⟨js_8 (List.mem_of_getElem? (i := 19) rfl),
  fun _ h => absurd h List.not_mem_nil⟩⟩⟩⟩⟩⟩⟩⟩⟩⟩⟩⟩⟩⟩⟩⟩⟩⟩⟩⟩⟩⟩⟩⟩⟩⟩⟩⟩⟩⟩⟩⟩⟩⟩⟩⟩⟩⟩⟩⟩
set_option maxRecDepth 20000 in
theorem jTr_34 : ∀ r ∈ jT_34, jwd (jprog.map jsig) r ∈ lw_tbl := List.forall_mem_cons.mpr ⟨js_8 (List.mem_of_getElem? (i := 20) rfl),
  List.forall_mem_cons.mpr ⟨js_8 (List.mem_of_getElem? (i := 21) rfl),
  List.forall_mem_cons.mpr ⟨js_8 (List.mem_of_getElem? (i := 23) rfl),
  List.forall_mem_cons.mpr ⟨js_8 (List.mem_of_getElem? (i := 24) rfl),
  List.forall_mem_cons.mpr ⟨js_8 (List.mem_of_getElem? (i := 25) rfl),
  List.forall_mem_cons.mpr ⟨js_8 (List.mem_of_getElem? (i := 27) rfl),
  List.forall_mem_cons.mpr ⟨js_8 (List.mem_of_getElem? (i := 28) rfl),
  List.forall_mem_cons.mpr ⟨js_8 (List.mem_of_getElem? (i := 29) rfl),
  List.forall_mem_cons.mpr ⟨js_8 (List.mem_of_getElem? (i := 31) rfl),
  List.forall_mem_cons.mpr ⟨js_8 (List.mem_of_getElem? (i := 32) rfl),
  List.forall_mem_cons.mpr ⟨js_8 (List.mem_of_getElem? (i := 33) rfl),
  List.forall_mem_cons.mpr ⟨js_8 (List.mem_of_getElem? (i := 34) rfl),
  List.forall_mem_cons.mpr ⟨js_8 (List.mem_of_getElem? (i := 35) rfl),
  List.forall_mem_cons.mpr ⟨js_8 (List.mem_of_getElem? (i := 36) rfl),
  List.forall_mem_cons.mpr ⟨js_8 (List.mem_of_getElem? (i := 37) rfl),
  List.forall_mem_cons.mpr ⟨js_8 (List.mem_of_getElem? (i := 38) rfl),
  List.forall_mem_cons.mpr ⟨js_8 (List.mem_of_getElem? (i := 39) rfl),
  List.forall_mem_cons.mpr ⟨js_8 (List.mem_of_getElem? (i := 40) rfl),
  List.forall_mem_cons.mpr ⟨js_8 (List.mem_of_getElem? (i := 41) rfl),
  List.forall_mem_cons.mpr ⟨js_8 (List.mem_of_getElem? (i := 42) rfl),
  List.forall_mem_cons.mpr ⟨js_8 (List.mem_of_getElem? (i := 43) rfl),
  List.forall_mem_cons.mpr ⟨js_8 (List.mem_of_getElem? (i := 44) rfl),
  List.forall_mem_cons.mpr ⟨js_8 (List.mem_of_getElem? (i := 45) rfl),
  List.forall_mem_cons.mpr ⟨js_8 (List.mem_of_getElem? (i := 46) rfl),
  List.forall_mem_cons.mpr ⟨js_8 (List.mem_of_getElem? (i := 48) rfl),
  List.forall_mem_cons.mpr ⟨js_8 (List.mem_of_getElem? (i := 49) rfl),
  List.forall_mem_cons.mpr ⟨js_8 (List.mem_of_getElem? (i := 50) rfl),
  List.forall_mem_cons.mpr ⟨js_8 (List.mem_of_getElem? (i := 51) rfl),
  List.forall_mem_cons.mpr ⟨js_8 (List.mem_of_getElem? (i := 52) rfl),
  List.forall_mem_cons.mpr ⟨js_8 (List.mem_of_getElem? (i := 53) rfl),
  List.forall_mem_cons.mpr ⟨js_8 (List.mem_of_getElem? (i := 54) rfl),
  List.forall_mem_cons.mpr ⟨js_8 (List.mem_of_getElem? (i := 55) rfl),
  List.forall_mem_cons.mpr ⟨js_8 (List.mem_of_getElem? (i := 57) rfl),
  List.forall_mem_cons.mpr ⟨js_8 (List.mem_of_getElem? (i := 58) rfl),
  List.forall_mem_cons.mpr ⟨js_8 (List.mem_of_getElem? (i := 59) rfl),
  List.forall_mem_cons.mpr ⟨js_8 (List.mem_of_getElem? (i := 60) rfl),
  List.forall_mem_cons.mpr ⟨js_8 (List.mem_of_getElem? (i := 61) rfl),
  List.forall_mem_cons.mpr ⟨js_8 (List.mem_of_getElem? (i := 62) rfl),
  List.forall_mem_cons.mpr ⟨js_8 (List.mem_of_getElem? (i := 63) rfl),
  List.forall_mem_cons.mpr ⟨js_8 (List.mem_of_getElem? (i := 64) rfl),
  fun _ h => absurd h List.not_mem_nil⟩⟩⟩⟩⟩⟩⟩⟩⟩⟩⟩⟩⟩⟩⟩⟩⟩⟩⟩⟩⟩⟩⟩⟩⟩⟩⟩⟩⟩⟩⟩⟩⟩⟩⟩⟩⟩⟩⟩⟩
set_option maxRecDepth 20000 in
theorem jTr_35 : ∀ r ∈ jT_35, jwd (jprog.map jsig) r ∈ lw_tbl := List.forall_mem_cons.mpr ⟨js_8 (List.mem_of_getElem? (i := 65) rfl),
  List.forall_mem_cons.mpr ⟨js_8 (List.mem_of_getElem? (i := 66) rfl),
  List.forall_mem_cons.mpr ⟨js_8 (List.mem_of_getElem? (i := 67) rfl),
  List.forall_mem_cons.mpr ⟨js_8 (List.mem_of_getElem? (i := 68) rfl),
  List.forall_mem_cons.mpr ⟨js_8 (List.mem_of_getElem? (i := 69) rfl),
  List.forall_mem_cons.mpr ⟨js_8 (List.mem_of_getElem? (i := 70) rfl),
  List.forall_mem_cons.mpr ⟨js_8 (List.mem_of_getElem? (i := 71) rfl),
  List.forall_mem_cons.mpr ⟨js_8 (List.mem_of_getElem? (i := 72) rfl),
  List.forall_mem_cons.mpr ⟨js_8 (List.mem_of_getElem? (i := 73) rfl),
  List.forall_mem_cons.mpr ⟨js_8 (List.mem_of_getElem? (i := 74) rfl),
  List.forall_mem_cons.mpr ⟨js_8 (List.mem_of_getElem? (i := 76) rfl),
  List.forall_mem_cons.mpr ⟨js_8 (List.mem_of_getElem? (i := 77) rfl),
  List.forall_mem_cons.mpr ⟨js_8 (List.mem_of_getElem? (i := 78) rfl),
  List.forall_mem_cons.mpr ⟨js_8 (List.mem_of_getElem? (i := 79) rfl),
  List.forall_mem_cons.mpr ⟨js_8 (List.mem_of_getElem? (i := 80) rfl),
  List.forall_mem_cons.mpr ⟨js_8 (List.mem_of_getElem? (i := 81) rfl),
  List.forall_mem_cons.mpr ⟨js_8 (List.mem_of_getElem? (i := 82) rfl),
  List.forall_mem_cons.mpr ⟨js_8 (List.mem_of_getElem? (i := 84) rfl),
  List.forall_mem_cons.mpr ⟨js_8 (List.mem_of_getElem? (i := 85) rfl),
  List.forall_mem_cons.mpr ⟨js_8 (List.mem_of_getElem? (i := 86) rfl),
  List.forall_mem_cons.mpr ⟨js_8 (List.mem_of_getElem? (i := 88) rfl),
  List.forall_mem_cons.mpr ⟨js_8 (List.mem_of_getElem? (i := 89) rfl),
  List.forall_mem_cons.mpr ⟨js_8 (List.mem_of_getElem? (i := 90) rfl),
  List.forall_mem_cons.mpr ⟨js_8 (List.mem_of_getElem? (i := 92) rfl),
  List.forall_mem_cons.mpr ⟨js_8 (List.mem_of_getElem? (i := 93) rfl),
  List.forall_mem_cons.mpr ⟨js_8 (List.mem_of_getElem? (i := 94) rfl),
  List.forall_mem_cons.mpr ⟨js_8 (List.mem_of_getElem? (i := 95) rfl),
  List.forall_mem_cons.mpr ⟨js_8 (List.mem_of_getElem? (i := 96) rfl),
  List.forall_mem_cons.mpr ⟨js_8 (List.mem_of_getElem? (i := 97) rfl),
  List.forall_mem_cons.mpr ⟨js_8 (List.mem_of_getElem? (i := 98) rfl),
  List.forall_mem_cons.mpr ⟨js_8 (List.mem_of_getElem? (i := 99) rfl),
  List.forall_mem_cons.mpr ⟨js_8 (List.mem_of_getElem? (i := 100) rfl),
  List.forall_mem_cons.mpr ⟨js_8 (List.mem_of_getElem? (i := 101) rfl),
  List.forall_mem_cons.mpr ⟨js_8 (List.mem_of_getElem? (i := 102) rfl),
  List.forall_mem_cons.mpr ⟨js_8 (List.mem_of_getElem? (i := 104) rfl),
  List.forall_mem_cons.mpr ⟨js_8 (List.mem_of_getElem? (i := 105) rfl),
  List.forall_mem_cons.mpr ⟨js_8 (List.mem_of_getElem? (i := 106) rfl),
  List.forall_mem_cons.mpr ⟨js_8 (List.mem_of_getElem? (i := 108) rfl),
  List.forall_mem_cons.mpr ⟨js_8 (List.mem_of_getElem? (i := 109) rfl),
  List.forall_mem_cons.mpr ⟨js_8 (List.mem_of_getElem? (i := 110) rfl),
  fun _ h => absurd h List.not_mem_nil⟩⟩⟩⟩⟩⟩⟩⟩⟩⟩⟩⟩⟩⟩⟩⟩⟩⟩⟩⟩⟩⟩⟩⟩⟩⟩⟩⟩⟩⟩⟩⟩⟩⟩⟩⟩⟩⟩⟩⟩
set_option maxRecDepth 20000 in
theorem jTr_36 : ∀ r ∈ jT_36, jwd (jprog.map jsig) r ∈ lw_tbl := List.forall_mem_cons.mpr ⟨js_8 (List.mem_of_getElem? (i := 112) rfl),
  List.forall_mem_cons.mpr ⟨js_8 (List.mem_of_getElem? (i := 113) rfl),
  List.forall_mem_cons.mpr ⟨js_8 (List.mem_of_getElem? (i := 114) rfl),
  List.forall_mem_cons.mpr ⟨js_8 (List.mem_of_getElem? (i := 116) rfl),
  List.forall_mem_cons.mpr ⟨js_8 (List.mem_of_getElem? (i := 117) rfl),
  List.forall_mem_cons.mpr ⟨js_8 (List.mem_of_getElem? (i := 118) rfl),
  List.forall_mem_cons.mpr ⟨js_8 (List.mem_of_getElem? (i := 120) rfl),
  List.forall_mem_cons.mpr ⟨js_8 (List.mem_of_getElem? (i := 121) rfl),
  List.forall_mem_cons.mpr ⟨js_8 (List.mem_of_getElem? (i := 122) rfl),
  List.forall_mem_cons.mpr ⟨js_8 (List.mem_of_getElem? (i := 124) rfl),
  List.forall_mem_cons.mpr ⟨js_8 (List.mem_of_getElem? (i := 125) rfl),
  List.forall_mem_cons.mpr ⟨js_8 (List.mem_of_getElem? (i := 126) rfl),
  List.forall_mem_cons.mpr ⟨js_8 (List.mem_of_getElem? (i := 128) rfl),
  List.forall_mem_cons.mpr ⟨js_8 (List.mem_of_getElem? (i := 129) rfl),
  List.forall_mem_cons.mpr ⟨js_8 (List.mem_of_getElem? (i := 130) rfl),
  List.forall_mem_cons.mpr ⟨js_8 (List.mem_of_getElem? (i := 131) rfl),
  List.forall_mem_cons.mpr ⟨js_8 (List.mem_of_getElem? (i := 132) rfl),
  List.forall_mem_cons.mpr ⟨js_8 (List.mem_of_getElem? (i := 133) rfl),
  List.forall_mem_cons.mpr ⟨js_8 (List.mem_of_getElem? (i := 134) rfl),
  List.forall_mem_cons.mpr ⟨js_8 (List.mem_of_getElem? (i := 135) rfl),
  List.forall_mem_cons.mpr ⟨js_8 (List.mem_of_getElem? (i := 136) rfl),
  List.forall_mem_cons.mpr ⟨js_8 (List.mem_of_getElem? (i := 137) rfl),
  List.forall_mem_cons.mpr ⟨js_8 (List.mem_of_getElem? (i := 138) rfl),
  List.forall_mem_cons.mpr ⟨js_8 (List.mem_of_getElem? (i := 140) rfl),
  List.forall_mem_cons.mpr ⟨js_8 (List.mem_of_getElem? (i := 141) rfl),
  List.forall_mem_cons.mpr ⟨js_8 (List.mem_of_getElem? (i := 142) rfl),
  List.forall_mem_cons.mpr ⟨js_8 (List.mem_of_getElem? (i := 143) rfl),
  List.forall_mem_cons.mpr ⟨js_8 (List.mem_of_getElem? (i := 144) rfl),
  List.forall_mem_cons.mpr ⟨js_8 (List.mem_of_getElem? (i := 145) rfl),
  List.forall_mem_cons.mpr ⟨js_8 (List.mem_of_getElem? (i := 146) rfl),
  List.forall_mem_cons.mpr ⟨js_8 (List.mem_of_getElem? (i := 147) rfl),
  List.forall_mem_cons.mpr ⟨js_8 (List.mem_of_getElem? (i := 149) rfl),
  List.forall_mem_cons.mpr ⟨js_8 (List.mem_of_getElem? (i := 150) rfl),
  List.forall_mem_cons.mpr ⟨js_8 (List.mem_of_getElem? (i := 151) rfl),
  List.forall_mem_cons.mpr ⟨js_8 (List.mem_of_getElem? (i := 153) rfl),
  List.forall_mem_cons.mpr ⟨js_8 (List.mem_of_getElem? (i := 154) rfl),
  List.forall_mem_cons.mpr ⟨js_8 (List.mem_of_getElem? (i := 155) rfl),
  List.forall_mem_cons.mpr ⟨js_8 (List.mem_of_getElem? (i := 157) rfl),
  List.forall_mem_cons.mpr ⟨js_8 (List.mem_of_getElem? (i := 158) rfl),
  List.forall_mem_cons.mpr ⟨js_8 (List.mem_of_getElem? (i := 159) rfl),
  fun _ h => absurd h List.not_mem_nil⟩⟩⟩⟩⟩⟩⟩⟩⟩⟩⟩⟩⟩⟩⟩⟩⟩⟩⟩⟩⟩⟩⟩⟩⟩⟩⟩⟩⟩⟩⟩⟩⟩⟩⟩⟩⟩⟩⟩⟩
set_option maxRecDepth 20000 in
theorem jTr_37 : ∀ r ∈ jT_37, jwd (jprog.map jsig) r ∈ lw_tbl := List.forall_mem_cons.mpr ⟨js_8 (List.mem_of_getElem? (i := 160) rfl),
  List.forall_mem_cons.mpr ⟨js_8 (List.mem_of_getElem? (i := 161) rfl),
  List.forall_mem_cons.mpr ⟨js_8 (List.mem_of_getElem? (i := 162) rfl),
  List.forall_mem_cons.mpr ⟨js_8 (List.mem_of_getElem? (i := 163) rfl),
  List.forall_mem_cons.mpr ⟨js_8 (List.mem_of_getElem? (i := 164) rfl),
  List.forall_mem_cons.mpr ⟨js_8 (List.mem_of_getElem? (i := 165) rfl),
  List.forall_mem_cons.mpr ⟨js_8 (List.mem_of_getElem? (i := 166) rfl),
  List.forall_mem_cons.mpr ⟨js_8 (List.mem_of_getElem? (i := 167) rfl),
  List.forall_mem_cons.mpr ⟨js_8 (List.mem_of_getElem? (i := 169) rfl),
  List.forall_mem_cons.mpr ⟨js_8 (List.mem_of_getElem? (i := 170) rfl),
  List.forall_mem_cons.mpr ⟨js_8 (List.mem_of_getElem? (i := 171) rfl),
  List.forall_mem_cons.mpr ⟨js_8 (List.mem_of_getElem? (i := 172) rfl),
  List.forall_mem_cons.mpr ⟨js_8 (List.mem_of_getElem? (i := 173) rfl),
  List.forall_mem_cons.mpr ⟨js_8 (List.mem_of_getElem? (i := 174) rfl),
  List.forall_mem_cons.mpr ⟨js_8 (List.mem_of_getElem? (i := 175) rfl),
  List.forall_mem_cons.mpr ⟨js_8 (List.mem_of_getElem? (i := 177) rfl),
  List.forall_mem_cons.mpr ⟨js_8 (List.mem_of_getElem? (i := 178) rfl),
  List.forall_mem_cons.mpr ⟨js_8 (List.mem_of_getElem? (i := 179) rfl),
  List.forall_mem_cons.mpr ⟨js_8 (List.mem_of_getElem? (i := 180) rfl),
  List.forall_mem_cons.mpr ⟨js_8 (List.mem_of_getElem? (i := 181) rfl),
  List.forall_mem_cons.mpr ⟨js_8 (List.mem_of_getElem? (i := 182) rfl),
  List.forall_mem_cons.mpr ⟨js_8 (List.mem_of_getElem? (i := 183) rfl),
  List.forall_mem_cons.mpr ⟨js_8 (List.mem_of_getElem? (i := 185) rfl),
  List.forall_mem_cons.mpr ⟨js_8 (List.mem_of_getElem? (i := 186) rfl),
  List.forall_mem_cons.mpr ⟨js_8 (List.mem_of_getElem? (i := 187) rfl),
  List.forall_mem_cons.mpr ⟨js_8 (List.mem_of_getElem? (i := 188) rfl),
  List.forall_mem_cons.mpr ⟨js_8 (List.mem_of_getElem? (i := 189) rfl),
  List.forall_mem_cons.mpr ⟨js_8 (List.mem_of_getElem? (i := 190) rfl),
  List.forall_mem_cons.mpr ⟨js_8 (List.mem_of_getElem? (i := 191) rfl),
  List.forall_mem_cons.mpr ⟨js_8 (List.mem_of_getElem? (i := 193) rfl),
  List.forall_mem_cons.mpr ⟨js_8 (List.mem_of_getElem? (i := 194) rfl),
  List.forall_mem_cons.mpr ⟨js_8 (List.mem_of_getElem? (i := 195) rfl),
  List.forall_mem_cons.mpr ⟨js_8 (List.mem_of_getElem? (i := 196) rfl),
  List.forall_mem_cons.mpr ⟨js_8 (List.mem_of_getElem? (i := 197) rfl),
  List.forall_mem_cons.mpr ⟨js_8 (List.mem_of_getElem? (i := 198) rfl),
  List.forall_mem_cons.mpr ⟨js_8 (List.mem_of_getElem? (i := 199) rfl),
  List.forall_mem_cons.mpr ⟨js_8 (List.mem_of_getElem? (i := 201) rfl),
  List.forall_mem_cons.mpr ⟨js_8 (List.mem_of_getElem? (i := 202) rfl),
  List.forall_mem_cons.mpr ⟨js_8 (List.mem_of_getElem? (i := 203) rfl),
  List.forall_mem_cons.mpr ⟨js_8 (List.mem_of_getElem? (i := 204) rfl),
  fun _ h => absurd h List.not_mem_nil⟩⟩⟩⟩⟩⟩⟩⟩⟩⟩⟩⟩⟩⟩⟩⟩⟩⟩⟩⟩⟩⟩⟩⟩⟩⟩⟩⟩⟩⟩⟩⟩⟩⟩⟩⟩⟩⟩⟩⟩
set_option maxRecDepth 20000 in
theorem jTr_38 : ∀ r ∈ jT_38, jwd (jprog.map jsig) r ∈ lw_tbl := List.forall_mem_cons.mpr ⟨js_8 (List.mem_of_getElem? (i := 205) rfl),
  List.forall_mem_cons.mpr ⟨js_8 (List.mem_of_getElem? (i := 206) rfl),
  List.forall_mem_cons.mpr ⟨js_8 (List.mem_of_getElem? (i := 207) rfl),
  List.forall_mem_cons.mpr ⟨js_8 (List.mem_of_getElem? (i := 208) rfl),
  List.forall_mem_cons.mpr ⟨js_8 (List.mem_of_getElem? (i := 209) rfl),
  List.forall_mem_cons.mpr ⟨js_8 (List.mem_of_getElem? (i := 210) rfl),
  List.forall_mem_cons.mpr ⟨js_8 (List.mem_of_getElem? (i := 211) rfl),
  List.forall_mem_cons.mpr ⟨js_8 (List.mem_of_getElem? (i := 212) rfl),
  List.forall_mem_cons.mpr ⟨js_8 (List.mem_of_getElem? (i := 213) rfl),
  List.forall_mem_cons.mpr ⟨js_8 (List.mem_of_getElem? (i := 214) rfl),
  List.forall_mem_cons.mpr ⟨js_8 (List.mem_of_getElem? (i := 215) rfl),
  List.forall_mem_cons.mpr ⟨js_8 (List.mem_of_getElem? (i := 216) rfl),
  List.forall_mem_cons.mpr ⟨js_8 (List.mem_of_getElem? (i := 217) rfl),
  List.forall_mem_cons.mpr ⟨js_8 (List.mem_of_getElem? (i := 219) rfl),
  List.forall_mem_cons.mpr ⟨js_8 (List.mem_of_getElem? (i := 220) rfl),
  List.forall_mem_cons.mpr ⟨js_8 (List.mem_of_getElem? (i := 221) rfl),
  List.forall_mem_cons.mpr ⟨js_8 (List.mem_of_getElem? (i := 222) rfl),
  List.forall_mem_cons.mpr ⟨js_8 (List.mem_of_getElem? (i := 223) rfl),
  List.forall_mem_cons.mpr ⟨js_8 (List.mem_of_getElem? (i := 224) rfl),
  List.forall_mem_cons.mpr ⟨js_8 (List.mem_of_getElem? (i := 225) rfl),
  List.forall_mem_cons.mpr ⟨js_8 (List.mem_of_getElem? (i := 226) rfl),
  List.forall_mem_cons.mpr ⟨js_8 (List.mem_of_getElem? (i := 227) rfl),
  List.forall_mem_cons.mpr ⟨js_8 (List.mem_of_getElem? (i := 228) rfl),
  List.forall_mem_cons.mpr ⟨js_8 (List.mem_of_getElem? (i := 229) rfl),
  List.forall_mem_cons.mpr ⟨js_8 (List.mem_of_getElem? (i := 230) rfl),
  List.forall_mem_cons.mpr ⟨js_8 (List.mem_of_getElem? (i := 232) rfl),
  List.forall_mem_cons.mpr ⟨js_8 (List.mem_of_getElem? (i := 233) rfl),
  List.forall_mem_cons.mpr ⟨js_8 (List.mem_of_getElem? (i := 234) rfl),
  List.forall_mem_cons.mpr ⟨js_8 (List.mem_of_getElem? (i := 235) rfl),
  List.forall_mem_cons.mpr ⟨js_8 (List.mem_of_getElem? (i := 236) rfl),
  List.forall_mem_cons.mpr ⟨js_8 (List.mem_of_getElem? (i := 237) rfl),
  List.forall_mem_cons.mpr ⟨js_8 (List.mem_of_getElem? (i := 238) rfl),
  List.forall_mem_cons.mpr ⟨js_8 (List.mem_of_getElem? (i := 239) rfl),
  List.forall_mem_cons.mpr ⟨js_9 (List.mem_of_getElem? (i := 0) rfl),
  List.forall_mem_cons.mpr ⟨js_9 (List.mem_of_getElem? (i := 1) rfl),
  List.forall_mem_cons.mpr ⟨js_9 (List.mem_of_getElem? (i := 2) rfl),
  List.forall_mem_cons.mpr ⟨js_9 (List.mem_of_getElem? (i := 3) rfl),
  List.forall_mem_cons.mpr ⟨js_9 (List.mem_of_getElem? (i := 5) rfl),
  List.forall_mem_cons.mpr ⟨js_9 (List.mem_of_getElem? (i := 6) rfl),
  List.forall_mem_cons.mpr ⟨js_9 (List.mem_of_getElem? (i := 7) rfl),
  fun _ h => absurd h List.not_mem_nil⟩⟩⟩⟩⟩⟩⟩⟩⟩⟩⟩⟩⟩⟩⟩⟩⟩⟩⟩⟩⟩⟩⟩⟩⟩⟩⟩⟩⟩⟩⟩⟩⟩⟩⟩⟩⟩⟩⟩⟩
set_option maxRecDepth 20000 in
theorem jTr_39 : ∀ r ∈ jT_39, jwd (jprog.map jsig) r ∈ lw_tbl := List.forall_mem_cons.mpr ⟨js_9 (List.mem_of_getElem? (i := 8) rfl),
  List.forall_mem_cons.mpr ⟨js_9 (List.mem_of_getElem? (i := 9) rfl),
  List.forall_mem_cons.mpr ⟨js_9 (List.mem_of_getElem? (i := 10) rfl),
  List.forall_mem_cons.mpr ⟨js_9 (List.mem_of_getElem? (i := 11) rfl),
  List.forall_mem_cons.mpr ⟨js_9 (List.mem_of_getElem? (i := 12) rfl),
  List.forall_mem_cons.mpr ⟨js_9 (List.mem_of_getElem? (i := 13) rfl),
  List.forall_mem_cons.mpr ⟨js_9 (List.mem_of_getElem? (i := 14) rfl),
  List.forall_mem_cons.mpr ⟨js_9 (List.mem_of_getElem? (i := 15) rfl),
  List.forall_mem_cons.mpr ⟨js_9 (List.mem_of_getElem? (i := 17) rfl),
  List.forall_mem_cons.mpr ⟨js_9 (List.mem_of_getElem? (i := 18) rfl),
  List.forall_mem_cons.mpr ⟨js_9 (List.mem_of_getElem? (i := 19) rfl),
  List.forall_mem_cons.mpr ⟨js_9 (List.mem_of_getElem? (i := 21) rfl),
  List.forall_mem_cons.mpr ⟨js_9 (List.mem_of_getElem? (i := 22) rfl),
  List.forall_mem_cons.mpr ⟨js_9 (List.mem_of_getElem? (i := 23) rfl),
  List.forall_mem_cons.mpr ⟨js_9 (List.mem_of_getElem? (i := 25) rfl),
  List.forall_mem_cons.mpr ⟨js_9 (List.mem_of_getElem? (i := 26) rfl),
  List.forall_mem_cons.mpr ⟨js_9 (List.mem_of_getElem? (i := 27) rfl),
  List.forall_mem_cons.mpr ⟨js_9 (List.mem_of_getElem? (i := 29) rfl),
  List.forall_mem_cons.mpr ⟨js_9 (List.mem_of_getElem? (i := 30) rfl),
  List.forall_mem_cons.mpr ⟨js_9 (List.mem_of_getElem? (i := 31) rfl),
  List.forall_mem_cons.mpr ⟨js_9 (List.mem_of_getElem? (i := 33) rfl),
  List.forall_mem_cons.mpr ⟨js_9 (List.mem_of_getElem? (i := 34) rfl),
  List.forall_mem_cons.mpr ⟨js_9 (List.mem_of_getElem? (i := 35) rfl),
  List.forall_mem_cons.mpr ⟨js_9 (List.mem_of_getElem? (i := 37) rfl),
  List.forall_mem_cons.mpr ⟨js_9 (List.mem_of_getElem? (i := 38) rfl),
  List.forall_mem_cons.mpr ⟨js_9 (List.mem_of_getElem? (i := 39) rfl),
  List.forall_mem_cons.mpr ⟨js_9 (List.mem_of_getElem? (i := 40) rfl),
  List.forall_mem_cons.mpr ⟨js_9 (List.mem_of_getElem? (i := 42) rfl),
  List.forall_mem_cons.mpr ⟨js_9 (List.mem_of_getElem? (i := 43) rfl),
  List.forall_mem_cons.mpr ⟨js_9 (List.mem_of_getElem? (i := 44) rfl),
  List.forall_mem_cons.mpr ⟨js_9 (List.mem_of_getElem? (i := 46) rfl),
  List.forall_mem_cons.mpr ⟨js_9 (List.mem_of_getElem? (i := 47) rfl),
  List.forall_mem_cons.mpr ⟨js_9 (List.mem_of_getElem? (i := 48) rfl),
  List.forall_mem_cons.mpr ⟨js_9 (List.mem_of_getElem? (i := 50) rfl),
  List.forall_mem_cons.mpr ⟨js_9 (List.mem_of_getElem? (i := 51) rfl),
  List.forall_mem_cons.mpr ⟨js_9 (List.mem_of_getElem? (i := 52) rfl),
  List.forall_mem_cons.mpr ⟨js_9 (List.mem_of_getElem? (i := 53) rfl),
  List.forall_mem_cons.mpr ⟨js_9 (List.mem_of_getElem? (i := 54) rfl),
  List.forall_mem_cons.mpr ⟨js_9 (List.mem_of_getElem? (i := 55) rfl),
  List.forall_mem_cons.mpr ⟨js_9 (List.mem_of_getElem? (i := 56) rfl),
  fun _ h => absurd h List.not_mem_nil⟩⟩⟩⟩⟩⟩⟩⟩⟩⟩⟩⟩⟩⟩⟩⟩⟩⟩⟩⟩⟩⟩⟩⟩⟩⟩⟩⟩⟩⟩⟩⟩⟩⟩⟩⟩⟩⟩⟩⟩
set_option maxRecDepth 20000 in
theorem jTr_40 : ∀ r ∈ jT_40, jwd (jprog.map jsig) r ∈ lw_tbl := List.forall_mem_cons.mpr ⟨js_9 (List.mem_of_getElem? (i := 58) rfl),
  List.forall_mem_cons.mpr ⟨js_9 (List.mem_of_getElem? (i := 59) rfl),
  List.forall_mem_cons.mpr ⟨js_9 (List.mem_of_getElem? (i := 60) rfl),
  List.forall_mem_cons.mpr ⟨js_9 (List.mem_of_getElem? (i := 62) rfl),
  List.forall_mem_cons.mpr ⟨js_9 (List.mem_of_getElem? (i := 63) rfl),
  List.forall_mem_cons.mpr ⟨js_9 (List.mem_of_getElem? (i := 64) rfl),
  List.forall_mem_cons.mpr ⟨js_9 (List.mem_of_getElem? (i := 65) rfl),
  List.forall_mem_cons.mpr ⟨js_9 (List.mem_of_getElem? (i := 66) rfl),
  List.forall_mem_cons.mpr ⟨js_9 (List.mem_of_getElem? (i := 67) rfl),
  List.forall_mem_cons.mpr ⟨js_9 (List.mem_of_getElem? (i := 68) rfl),
  List.forall_mem_cons.mpr ⟨js_9 (List.mem_of_getElem? (i := 69) rfl),
  List.forall_mem_cons.mpr ⟨js_9 (List.mem_of_getElem? (i := 70) rfl),
  List.forall_mem_cons.mpr ⟨js_9 (List.mem_of_getElem? (i := 71) rfl),
  List.forall_mem_cons.mpr ⟨js_9 (List.mem_of_getElem? (i := 72) rfl),
  List.forall_mem_cons.mpr ⟨js_9 (List.mem_of_getElem? (i := 73) rfl),
  List.forall_mem_cons.mpr ⟨js_9 (List.mem_of_getElem? (i := 74) rfl),
  List.forall_mem_cons.mpr ⟨js_9 (List.mem_of_getElem? (i := 75) rfl),
  List.forall_mem_cons.mpr ⟨js_9 (List.mem_of_getElem? (i := 76) rfl),
  List.forall_mem_cons.mpr ⟨js_9 (List.mem_of_getElem? (i := 78) rfl),
  List.forall_mem_cons.mpr ⟨js_9 (List.mem_of_getElem? (i := 79) rfl),
  List.forall_mem_cons.mpr ⟨js_9 (List.mem_of_getElem? (i := 80) rfl),
  List.forall_mem_cons.mpr ⟨js_9 (List.mem_of_getElem? (i := 82) rfl),
  List.forall_mem_cons.mpr ⟨js_9 (List.mem_of_getElem? (i := 83) rfl),
  List.forall_mem_cons.mpr ⟨js_9 (List.mem_of_getElem? (i := 84) rfl),
  List.forall_mem_cons.mpr ⟨js_9 (List.mem_of_getElem? (i := 86) rfl),
  List.forall_mem_cons.mpr ⟨js_9 (List.mem_of_getElem? (i := 87) rfl),
  List.forall_mem_cons.mpr ⟨js_9 (List.mem_of_getElem? (i := 88) rfl),
  List.forall_mem_cons.mpr ⟨js_9 (List.mem_of_getElem? (i := 89) rfl),
  List.forall_mem_cons.mpr ⟨js_9 (List.mem_of_getElem? (i := 90) rfl),
  List.forall_mem_cons.mpr ⟨js_9 (List.mem_of_getElem? (i := 91) rfl),
  List.forall_mem_cons.mpr ⟨js_9 (List.mem_of_getElem? (i := 92) rfl),
  List.forall_mem_cons.mpr ⟨js_9 (List.mem_of_getElem? (i := 93) rfl),
  List.forall_mem_cons.mpr ⟨js_9 (List.mem_of_getElem? (i := 94) rfl),
  fun _ h => absurd h List.not_mem_nil⟩⟩⟩⟩⟩⟩⟩⟩⟩⟩⟩⟩⟩⟩⟩⟩⟩⟩⟩⟩⟩⟩⟩⟩⟩⟩⟩⟩⟩⟩⟩⟩⟩
theorem jT_ok : ∀ r ∈ jT.flatten, jwd (jprog.map jsig) r ∈ jtb := by
  intro r hr
  refine List.mem_filter.mpr ⟨?_, jwd_gd _ r⟩
  obtain ⟨l, hl, hr⟩ := List.mem_flatten.mp hr
  simp only [jT, List.mem_cons, List.not_mem_nil, or_false] at hl
  rcases hl with rfl | rfl | rfl | rfl | rfl | rfl | rfl | rfl | rfl | rfl | rfl | rfl | rfl | rfl | rfl | rfl | rfl | rfl | rfl | rfl | rfl | rfl | rfl | rfl | rfl | rfl | rfl | rfl | rfl | rfl | rfl | rfl | rfl | rfl | rfl | rfl | rfl | rfl | rfl | rfl | rfl
  · exact jTr_0 r hr
  · exact jTr_1 r hr
  · exact jTr_2 r hr
  · exact jTr_3 r hr
  · exact jTr_4 r hr
  · exact jTr_5 r hr
  · exact jTr_6 r hr
  · exact jTr_7 r hr
  · exact jTr_8 r hr
  · exact jTr_9 r hr
  · exact jTr_10 r hr
  · exact jTr_11 r hr
  · exact jTr_12 r hr
  · exact jTr_13 r hr
  · exact jTr_14 r hr
  · exact jTr_15 r hr
  · exact jTr_16 r hr
  · exact jTr_17 r hr
  · exact jTr_18 r hr
  · exact jTr_19 r hr
  · exact jTr_20 r hr
  · exact jTr_21 r hr
  · exact jTr_22 r hr
  · exact jTr_23 r hr
  · exact jTr_24 r hr
  · exact jTr_25 r hr
  · exact jTr_26 r hr
  · exact jTr_27 r hr
  · exact jTr_28 r hr
  · exact jTr_29 r hr
  · exact jTr_30 r hr
  · exact jTr_31 r hr
  · exact jTr_32 r hr
  · exact jTr_33 r hr
  · exact jTr_34 r hr
  · exact jTr_35 r hr
  · exact jTr_36 r hr
  · exact jTr_37 r hr
  · exact jTr_38 r hr
  · exact jTr_39 r hr
  · exact jTr_40 r hr
theorem jsg_ok : (jprog.map jsig).all jsgk = true := by decide +kernel
