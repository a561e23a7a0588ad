/-! Rules for the pure interpreter -/
theorem px_mono {P : List jM} {X : jX} : ∀ {n : Nat} {d : Nat} {es : List jE} {pc : Nat} {pl : jPL} {st : List Value} {σ : jS} {z : Option Value × jS}, px P X n d es pc pl st σ = some z → ∀ {k : Nat}, n ≤ k → px P X k d es pc pl st σ = some z := by
  intro n
  induction n with
  | zero => intro d es pc pl st σ z h; simp [px] at h
  | succ n ih =>
    intro d es pc pl st σ z h k hk
    cases k with
    | zero => omega
    | succ k =>
      have hk : n ≤ k := by omega
      unfold px at h ⊢
      cases hf : jfe es pc with
      | none => rw [hf] at h; cases h
      | some E =>
        rw [hf] at h
        simp only at h ⊢
        cases hs : jstep X E pl st σ with
        | none => rw [hs] at h; cases h
        | some o =>
          rw [hs] at h
          rcases o with ⟨pc', pl', st', σ'⟩ | r | ⟨mi, vs, rest⟩
          · simp only at h ⊢
            exact ih h hk
          · exact h
          · simp only at h ⊢
            cases d with
            | zero => cases h
            | succ d =>
              simp only at h ⊢
              cases hM : P[mi]? with
              | none => rw [hM] at h; cases h
              | some M =>
                rw [hM] at h
                simp only at h ⊢
                by_cases hl : (jent vs M.2.2.1).length = M.2.2.1
                · rw [if_pos hl] at h ⊢
                  cases hc : px P X n d M.2.2.2.2.2 0 (jent vs M.2.2.1) [] σ with
                  | none => rw [hc] at h; cases h
                  | some y =>
                    rw [hc] at h
                    rw [ih hc hk]
                    obtain ⟨r1, σ1⟩ := y
                    simp only at h ⊢
                    exact ih h hk
                · rw [if_neg hl] at h; cases h
/-- px comes to an answer with Q -/
def jEx (X : jX) (d : Nat) (es : List jE) (pc : Nat) (pl : jPL) (st : List Value) (σ : jS) (Q : Option Value → jS → Prop) : Prop := ∃ (n : Nat) (r : Option Value) (σ' : jS), px jprog X n d es pc pl st σ = some (r, σ') ∧ Q r σ'
/-- method mi, called on vs, comes to an answer with Q, in d calls at once -/
def jCa (X : jX) (d mi : Nat) (vs : List Value) (σ : jS) (Q : Option Value → jS → Prop) : Prop := ∃ M : jM, jprog[mi]? = some M ∧ (jent vs M.2.2.1).length = M.2.2.1 ∧ jEx X d M.2.2.2.2.2 0 (jent vs M.2.2.1) [] σ Q
section JEX
variable {X : jX} {d : Nat} {es : List jE} {pc : Nat} {pl : jPL} {st : List Value} {σ : jS} {Q : Option Value → jS → Prop}
theorem jx_next {E : jE} {pc' : Nat} {pl' : jPL} {st' : List Value} {σ' : jS} (hf : jfe es pc = some E) (hs : jstep X E pl st σ = some (.inl (pc', pl', st', σ'))) (k : jEx X d es pc' pl' st' σ' Q) : jEx X d es pc pl st σ Q := by
  obtain ⟨n, r, τ, h, hq⟩ := k
  refine ⟨n + 1, r, τ, ?_, hq⟩
  unfold px
  rw [hf]
  simp only [hs]
  exact h
theorem jx_ret {E : jE} {r : Option Value} (hf : jfe es pc = some E) (hs : jstep X E pl st σ = some (.inr (.inl r))) (hq : Q r σ) : jEx X d es pc pl st σ Q := by
  refine ⟨1, r, σ, ?_, hq⟩
  unfold px
  rw [hf]
  simp only [hs]
theorem jx_call {E : jE} {mi : Nat} {vs rest : List Value} (hf : jfe es pc = some E) (hs : jstep X E pl st σ = some (.inr (.inr (mi, vs, rest)))) (hc : jCa X d mi vs σ (fun r σ1 => jEx X (d + 1) es (pc + 3) pl (r.toList ++ rest) σ1 Q)) : jEx X (d + 1) es pc pl st σ Q := by
  obtain ⟨M, hM, hl, n1, r1, σ1, h1, n2, r, τ, h2, hq⟩ := hc
  refine ⟨max n1 n2 + 1, r, τ, ?_, hq⟩
  unfold px
  rw [hf]
  simp only [hs, hM]
  rw [if_pos hl, px_mono h1 (Nat.le_max_left _ _)]
  simp only
  exact px_mono h2 (Nat.le_max_right _ _)
theorem jx_imp {Q' : Option Value → jS → Prop} (h : jEx X d es pc pl st σ Q) (hq : ∀ r τ, Q r τ → Q' r τ) : jEx X d es pc pl st σ Q' := by
  obtain ⟨n, r, τ, h1, h2⟩ := h
  exact ⟨n, r, τ, h1, hq r τ h2⟩
theorem jCa_imp {mi : Nat} {vs : List Value} {Q' : Option Value → jS → Prop} (h : jCa X d mi vs σ Q) (hq : ∀ r τ, Q r τ → Q' r τ) : jCa X d mi vs σ Q' := by
  obtain ⟨M, h1, h2, h3⟩ := h
  exact ⟨M, h1, h2, jx_imp h3 hq⟩
theorem jx_if {E : jE} {c : Jvm.ClassFile.Cond} {off : Int} {x : Int32} {t f : Nat} (hf : jfe es pc = some E) (hs : jstep X E pl (.int x :: st) σ = jgo (jbr c x 0 t f) pl st σ) (hk : jEx X d es (jbr c x 0 t f) pl st σ Q) : jEx X d es pc pl (.int x :: st) σ Q := jx_next hf hs hk
/-- fewer known places -/
def jle : jPL → jPL → Prop
  | [], [] => True
  | none :: a, _ :: b => jle a b
  | some v :: a, w :: b => w = some v ∧ jle a b
  | _, _ => False
theorem jle_len : ∀ {a b : jPL}, jle a b → a.length = b.length := by
  intro a
  induction a with
  | nil => intro b h; cases b with
    | nil => rfl
    | cons _ _ => exact h.elim
  | cons x a ih => intro b h; cases b with
    | nil => cases x <;> exact h.elim
    | cons y b =>
      cases x with
      | none => simp [ih (b := b) h]
      | some v => simp [ih (b := b) h.2]
theorem jle_at : ∀ {a b : jPL}, jle a b → ∀ {i : Nat} {v : Value}, a.getD i none = some v → b.getD i none = some v := by
  intro a
  induction a with
  | nil => intro b h i v hv; simp at hv
  | cons x a ih => intro b h i v hv; cases b with
    | nil => cases x <;> exact h.elim
    | cons y b =>
      cases i with
      | zero =>
        cases x with
        | none => simp at hv
        | some w => obtain ⟨rfl, -⟩ := h; simpa using hv
      | succ i =>
        have h' : jle a b := by
          cases x with
          | none => exact h
          | some w => exact h.2
        have := ih h' (i := i) (v := v) (by simpa using hv)
        simpa using this
theorem jle_set : ∀ {a b : jPL}, jle a b → ∀ {i : Nat} {v : Option Value}, jle (a.set i v) (b.set i v) := by
  intro a
  induction a with
  | nil => intro b h i v; cases b with
    | nil => trivial
    | cons _ _ => exact h.elim
  | cons x a ih => intro b h i v; cases b with
    | nil => cases x <;> exact h.elim
    | cons y b =>
      have h' : jle a b := by
        cases x with
        | none => exact h
        | some w => exact h.2
      cases i with
      | zero =>
        cases v with
        | none => exact h'
        | some w => exact ⟨rfl, h'⟩
      | succ i =>
        cases x with
        | none => exact ih h'
        | some w => exact ⟨h.1, ih h'⟩
theorem jle_setn : ∀ {a b : jPL}, jle a b → ∀ {i : Nat}, a.getD i none = none → jle a (b.set i none) := by
  intro a
  induction a with
  | nil => intro b h i _; cases b with
    | nil => trivial
    | cons _ _ => exact h.elim
  | cons x a ih => intro b h i hi; cases b with
    | nil => cases x <;> exact h.elim
    | cons y b =>
      have h' : jle a b := by
        cases x with
        | none => exact h
        | some w => exact h.2
      cases i with
      | zero =>
        cases x with
        | none => exact h'
        | some w => simp at hi
      | succ i =>
        cases x with
        | none => exact ih h' (by simpa using hi)
        | some w => exact ⟨h.1, ih h' (by simpa using hi)⟩
theorem jle_setl : ∀ {a b : jPL}, jle a b → ∀ {i : Nat}, jle (a.set i none) b := by
  intro a
  induction a with
  | nil => intro b h i; cases b with
    | nil => trivial
    | cons _ _ => exact h.elim
  | cons x a ih => intro b h i; cases b with
    | nil => cases x <;> exact h.elim
    | cons y b =>
      have h' : jle a b := by
        cases x with
        | none => exact h
        | some w => exact h.2
      cases i with
      | zero => exact h'
      | succ i =>
        cases x with
        | none => exact ih h'
        | some w => exact ⟨h.1, ih h'⟩
theorem jle_kl {a b : jPL} (h : jle a b) (i : Nat) : jle (jkl a i) (jkl b i) := by
  cases i with
  | zero => exact h
  | succ i =>
    show jle (if jil (a.getD i none) = true then a.set i none else a) (if jil (b.getD i none) = true then b.set i none else b)
    by_cases h1 : jil (a.getD i none) = true
    · have h2 : a.getD i none = b.getD i none := by
        cases ha : a.getD i none with
        | none => rw [ha] at h1; cases h1
        | some v => rw [jle_at h ha]
      rw [if_pos h1, if_pos (by rw [← h2]; exact h1)]
      exact jle_set h
    · rw [if_neg h1]
      by_cases h2 : jil (b.getD i none) = true
      · rw [if_pos h2]
        refine jle_setn h ?_
        cases ha : a.getD i none with
        | none => rfl
        | some v =>
          have := jle_at h ha
          rw [this] at h2
          rw [ha] at h1
          exact absurd h2 h1
      · rw [if_neg h2]; exact h
theorem jle_s1 {a b : jPL} (h : jle a b) (i : Nat) (v : Value) : jle (js1 a i v) (js1 b i v) := jle_set (jle_kl h i)
theorem jle_s2 {a b : jPL} (h : jle a b) (i : Nat) (v : Value) : jle (js2 a i v) (js2 b i v) := jle_set (jle_set (jle_kl h i))
def jOle (o o' : jO) : Prop := match o, o' with
  | .inl (pc, q, s, t), .inl (pc', q', s', t') => pc = pc' ∧ jle q q' ∧ s = s' ∧ t = t'
  | .inr x, .inr y => x = y
  | _, _ => False
theorem jstep_le {E : jE} {pl' : jPL} {o : jO} (hle : jle pl pl') (h : jstep X E pl st σ = some o) : ∃ o', jstep X E pl' st σ = some o' ∧ jOle o o' := by
  obtain ⟨pc, ins, len, ⟨a, b, k, w⟩, ⟨iv, lv, sw⟩⟩ := E
  have hlen := jle_len hle
  cases ins with
  | iload_n q => simp only [jstep, jldi] at h ⊢; split at h; (next x hx => rw [jle_at hle hx]; cases h; exact ⟨_, rfl, rfl, hle, rfl, rfl⟩); cases h
  | iload q => simp only [jstep, jldi] at h ⊢; split at h; (next x hx => rw [jle_at hle hx]; cases h; exact ⟨_, rfl, rfl, hle, rfl, rfl⟩); cases h
  | lload_n q => simp only [jstep, jldl] at h ⊢; split at h; (next x hx => rw [jle_at hle hx]; cases h; exact ⟨_, rfl, rfl, hle, rfl, rfl⟩); cases h
  | lload q => simp only [jstep, jldl] at h ⊢; split at h; (next x hx => rw [jle_at hle hx]; cases h; exact ⟨_, rfl, rfl, hle, rfl, rfl⟩); cases h
  | aload_n q => simp only [jstep, jlda] at h ⊢; split at h; (next x hx => rw [jle_at hle hx]; cases h; exact ⟨_, rfl, rfl, hle, rfl, rfl⟩); cases h
  | aload q => simp only [jstep, jlda] at h ⊢; split at h; (next x hx => rw [jle_at hle hx]; cases h; exact ⟨_, rfl, rfl, hle, rfl, rfl⟩); cases h
  | istore_n q => simp only [jstep, jsti] at h ⊢; split at h; (split at h; (next hq => rw [if_pos (by rw [← hlen]; exact hq)]; cases h; exact ⟨_, rfl, rfl, jle_s1 hle _ _, rfl, rfl⟩); cases h); cases h
  | istore q => simp only [jstep, jsti] at h ⊢; split at h; (split at h; (next hq => rw [if_pos (by rw [← hlen]; exact hq)]; cases h; exact ⟨_, rfl, rfl, jle_s1 hle _ _, rfl, rfl⟩); cases h); cases h
  | lstore_n q => simp only [jstep, jstl] at h ⊢; split at h; (split at h; (next hq => rw [if_pos (by rw [← hlen]; exact hq)]; cases h; exact ⟨_, rfl, rfl, jle_s2 hle _ _, rfl, rfl⟩); cases h); cases h
  | lstore q => simp only [jstep, jstl] at h ⊢; split at h; (split at h; (next hq => rw [if_pos (by rw [← hlen]; exact hq)]; cases h; exact ⟨_, rfl, rfl, jle_s2 hle _ _, rfl, rfl⟩); cases h); cases h
  | astore_n q => simp only [jstep, jsta] at h ⊢; split at h; (split at h; (next hq => rw [if_pos (by rw [← hlen]; exact hq)]; cases h; exact ⟨_, rfl, rfl, jle_s1 hle _ _, rfl, rfl⟩); cases h); cases h
  | astore q => simp only [jstep, jsta] at h ⊢; split at h; (split at h; (next hq => rw [if_pos (by rw [← hlen]; exact hq)]; cases h; exact ⟨_, rfl, rfl, jle_s1 hle _ _, rfl, rfl⟩); cases h); cases h
  | iinc q z => simp only [jstep, jinc] at h ⊢; split at h; (next x hx => rw [jle_at hle hx]; split at h; (next hq => simp only; rw [if_pos (by rw [← hlen]; exact hq)]; cases h; exact ⟨_, rfl, rfl, jle_s1 hle _ _, rfl, rfl⟩); cases h); cases h
  | _ =>
    simp only [jstep, jo2, jo2d, jL2, jL2d, jlc, jcv1, jcv2, jif1, jif2, jsw, jdup, jdup2, jpop, jget, jput, jgst, jal, jiald, jlald, jcald, jaald, jiast, jlast, jcast, jaast, jnob, jnar, jcall, jret, jretl, jreta, jretv, jnx, jgo] at h ⊢ <;> (repeat' split at h) <;> first
    | (cases h; done)
    | (cases h; exact ⟨_, rfl, rfl, hle, rfl, rfl⟩)
    | (cases h; exact ⟨_, rfl, rfl⟩)
    | (cases h; rw [if_pos (by assumption)]; exact ⟨_, rfl, rfl, hle, rfl, rfl⟩)
    | (cases h; rw [if_pos (by assumption)]; exact ⟨_, rfl, rfl⟩)
    | (cases h; rw [if_neg (by assumption)]; exact ⟨_, rfl, rfl, hle, rfl, rfl⟩)
    | (cases h; rw [if_neg (by assumption), if_pos (by assumption)]; exact ⟨_, rfl, rfl, hle, rfl, rfl⟩)
    | (cases h; rw [if_neg (by assumption), if_neg (by assumption), if_pos (by assumption)]; exact ⟨_, rfl, rfl, hle, rfl, rfl⟩)
    | (cases h; simp_all [jOle]; done)
    | (simp at h; done)
theorem px_le {P : List jM} {X : jX} : ∀ {n : Nat} {d : Nat} {es : List jE} {pc : Nat} {pl pl' : jPL} {st : List Value} {σ : jS} {z : Option Value × jS}, jle pl pl' → px P X n d es pc pl st σ = some z → px P X n d es pc pl' st σ = some z := by
  intro n
  induction n with
  | zero => intro d es pc pl pl' st σ z _ h; simp [px] at h
  | succ n ih =>
    intro d es pc pl pl' st σ z hle h
    unfold px at h ⊢
    cases hf : jfe es pc with
    | none => rw [hf] at h; cases h
    | some E =>
      rw [hf] at h
      simp only at h ⊢
      cases hs : jstep X E pl st σ with
      | none => rw [hs] at h; cases h
      | some o =>
        obtain ⟨o', ho, hoo⟩ := jstep_le hle hs
        rw [hs] at h
        rw [ho]
        rcases o with ⟨pc1, pl1, st1, σ1⟩ | r | ⟨mi, vs, rest⟩
        · rcases o' with ⟨pc2, pl2, st2, σ2⟩ | r
          · obtain ⟨rfl, h2, rfl, rfl⟩ := hoo
            simp only at h ⊢
            exact ih h2 h
          · exact hoo.elim
        · rcases o' with ⟨pc2, pl2, st2, σ2⟩ | r'
          · exact hoo.elim
          · cases hoo; exact h
        · rcases o' with ⟨pc2, pl2, st2, σ2⟩ | r'
          · exact hoo.elim
          · cases hoo
            simp only at h ⊢
            cases d with
            | zero => cases h
            | succ d =>
              simp only at h ⊢
              cases hM : P[mi]? with
              | none => rw [hM] at h; cases h
              | some M =>
                rw [hM] at h
                simp only at h ⊢
                by_cases hl : (jent vs M.2.2.1).length = M.2.2.1
                · rw [if_pos hl] at h ⊢
                  cases hc : px P X n d M.2.2.2.2.2 0 (jent vs M.2.2.1) [] σ with
                  | none => rw [hc] at h; cases h
                  | some y =>
                    rw [hc] at h
                    obtain ⟨r1, σ1⟩ := y
                    simp only at h ⊢
                    exact ih hle h
                · rw [if_neg hl] at h; cases h
theorem jx_le {pl' : jPL} (h : jle pl' pl) (k : jEx X d es pc pl' st σ Q) : jEx X d es pc pl st σ Q := by
  obtain ⟨n, r, τ, h1, h2⟩ := k
  exact ⟨n, r, τ, px_le h h1, h2⟩
end JEX
