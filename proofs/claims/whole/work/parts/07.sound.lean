/-! The pure interpreter is sound: what it answers, the machine answers -/
def jsig (M : jM) : jSg := (M.1, M.2.1, M.2.2.1, M.2.2.2.1, M.2.2.2.2.1)
/-- what is checked of a method: its words, its code -/
def jokM (S : List jSg) (q : Nat × Nat × Nat × Nat) (M : jM) : Bool :=
  plainFor M.1 && (jW3 q.1 (.code M.1 M.2.1 M.2.2.1 M.2.2.2.1) && (jW3 q.2.1 (.initialized M.1.cls) && ((if M.2.2.2.2.1.2.1 then jW3 q.2.2.1 (.static M.1) else jW3 q.2.2.1 (.instanceMethod M.1) && (M.1.name == "<init>" || jW3 q.2.2.2 (.selects M.1.cls M.1 M.1))) &&
  (decide (M.1.cls ≠ "java/lang/invoke/MethodHandle" ∧ M.1.cls ≠ "java/lang/invoke/VarHandle") && (decide ((parseMethodDescriptor M.1.desc).map (fun d => d.parameters.length) = some M.2.2.2.2.1.1) && (decide (M.2.2.1 ≤ 40) && M.2.2.2.2.2.all (jokE S M.1.cls M.2.1 (M.1.name == "<init>") M.2.2.2.1)))))))
def jMok (S : List jSg) (M : jM) : Prop := ∃ q, jokM S q M = true
def jwsM (M : jM) : List Jvm.Cond := .code M.1 M.2.1 M.2.2.1 M.2.2.2.1 :: jtb
def jrm (d k w : Nat) : Room := { frames := d + 1, cells := k, slots := w, locals := 64 * (d + 1) }
def jQ (G : jG) (σ : jS) (r : Option Value) : Array Value → State → Outcome → State → Prop := fun _ st oc t => (oc = .returned (r.map (jcv G)) ∧ jWd G σ t.heap) ∧ va_F (jA G) st t
def jPc (G : jG) (X : jX) (vs : List Value) (σ : jS) : Array Value → State → Prop := va_Pc (vs.map (jcv G)) (fun U => jK G X U ∧ jWd G σ U.heap)
theorem jObj : Jvm.Cond.instanceMethod Lib.objectInit ∈ jtb ∧ Jvm.Cond.code Lib.objectInit ⟨#[0xb1]⟩ 1 none ∈ jtb := ⟨jin_tbl (i := 143) (by decide +kernel), jin_tbl (i := 144) (by decide +kernel)⟩
theorem jK.moved {G : jG} {X : jX} {u U : State} (hvm : u.vm.Alike U.vm) (hz : u.heap.size ≤ U.heap.size) (hq : ∀ q : Nat, q < u.heap.size → ¬ jA G q → U.heap[q]? = u.heap[q]?) (h : jK G X u) : jK G X U := by
  obtain ⟨h1, h2, h3, h4, h5, h6, h7, h8⟩ := h
  have h9 : U.heap[G.2.2.2.2.2]? = u.heap[G.2.2.2.2.2]? := hq _ (Nat.lt_of_lt_of_le h6 h7) (Nat.not_le.mpr h6)
  exact ⟨va_K.moved hvm h1, fun i hi => ⟨((h2 i hi).1.moved hvm).kept hq, ((h2 i hi).2.1.moved hvm).kept hq, ((h2 i hi).2.2.moved hvm).kept hq⟩, (h3.moved hvm).kept hq, (h4.moved hvm).kept hq, (h5.moved hvm).kept h9, h6, Nat.le_trans h7 hz, h8.moved hvm⟩
theorem jlg_sl (G : jG) (vs : List Value) : lg_sl (vs.map (jcv G)) = (vs.flatMap (fun v => if v.category = 2 then [some v, none] else [some v])).map (fun (q : Option Value) => match q with | some v => Slot.val (jcv G v) | none => .second) := by
  induction vs with
  | nil => rfl
  | cons v vs ih =>
    simp only [lg_sl, List.map_cons, List.flatMap_cons, List.map_append] at ih ⊢
    rw [ih]
    by_cases h : v.category = 2
    · simp [jcv_cat, h]
    · simp [jcv_cat, h]
theorem jent_ok (G : jG) (vs : List Value) (n : Nat) (h : (jent vs n).length = n) : jLs G ((lg_sl (vs.map (jcv G)) ++ List.replicate (n - (lg_sl (vs.map (jcv G))).length) Slot.unset).toArray) n (jent vs n) := by
  have hlen : (lg_sl (vs.map (jcv G))).length = (vs.flatMap (fun v => if v.category = 2 then [some v, none] else [some v])).length := by rw [jlg_sl]; simp only [List.length_map]
  have hle : (lg_sl (vs.map (jcv G))).length ≤ n := by
    rw [hlen]
    simp only [jent, List.length_append, List.length_replicate] at h
    omega
  have he := lv_entry (vs.map (jcv G)) hle
  refine ⟨he.1, he.2.1, h, fun i v hv => ?_⟩
  simp only [jent] at hv
  by_cases hi : i < (vs.flatMap (fun v => if v.category = 2 then [some v, none] else [some v])).length
  · rw [List.getElem?_append_left hi] at hv
    rw [List.getElem?_toArray, List.getElem?_append_left (by rw [hlen]; exact hi), jlg_sl, List.getElem?_map, hv]
    rfl
  · rw [List.getElem?_append_right (by omega), List.getElem?_replicate] at hv
    split at hv <;> cases hv
theorem jMetW {l : Launch} {y : MethodName} {ws ws' : List Jvm.Cond} {rm : Room} {Pc : Array Value → State → Prop} {Qc : Array Value → State → Outcome → State → Prop} {mc ms : Nat} {free : Addr → Prop} {cc : ByteArray} {maxL : Nat} {ret : Option FieldType}
    (hy : plainFor y = true) (hw : ws = Jvm.Cond.code y cc maxL ret :: ws')
    (body : ∀ p e s m args below meth c s₁, BodyLoose p l y (headSpec ws rm) cc maxL ret e s m args below meth c s₁ → c.maxLocals = maxL → Pc args s →
      W p l e (headSpec ws rm).room s m args below meth c s.heap [] 0 0 (MQ below Qc args s mc ms free) (entryFrame m args maxL)) : Met l y ws rm Pc Qc mc ms free := by
  refine MetFree.of_bodySF (code := cc) (maxLocals := maxL) (ret := ret) hy ?_ ?_
  · intro args s m h hn
    obtain ⟨meth, c, h1, h2, h3, h4, h5, h6, -, -⟩ := Cond.code_spec hn (atoms_spec (ws := ws) h _ (by rw [hw]; exact List.mem_cons_self))
    exact ⟨meth, c, h1, h2, h3, h4, h5, h6⟩
  · intro p e s m args below meth c s₁ B hml hP _
    have hh0 : s₁.heap = s.heap := by rw [B.state]; rfl
    obtain ⟨t, a1, o, b1, b2, b3⟩ := body p e s m args below meth c s₁ B hml hP s₁ hh0 (Stand.of_body B)
    exact ⟨t, o, a1, b1, b2, ⟨b3.1, b3.2⟩⟩
section JQ
variable {p : Program} {l : Launch} {e : Env} {R : Room} {s : State} {m : MethodId} {args : Array Value} {below : List Frame} {meth : Method} {c : Code} {Q : State → Prop}
variable {G : jG} {X : jX} {own : String} {cc : ByteArray} {nL n0 : Nat} {ini : Bool} {S : List jSg} {ret : Option FieldType} {P : List jM}
variable {pc : Nat} {pl pl' : jPL} {st st' : List Value} {σ σ' σ1 σ2 : jS} {pc' len a b k w : Nat} {iv : Int32} {lv : Int64} {sw : List (Int32 × Nat)} {ins : Instr} {r : Option Value} {H : Heap} {locs : List Loc} {cells slots mc ms : Nat} {ls : Array Slot} {rest st0 : List Value} {aa : Array Value} {free : Addr → Prop}
/-- behind a call -/
theorem j_back (hr : va_Run p l e R s m args below meth c H locs cells slots mc ms (F0 m pc ls st0) rest (jQ G σ1 r aa) free) (hS : va_S (jA G) s.heap H locs) (hf : ∀ q, free q → jA G q)
    (kk : ∀ (H1 : Heap) (locs1 : List Loc), jWd G σ1 H1 → va_S (jA G) s.heap H1 locs1 → W p l e R s m args below meth c H1 locs1 (cells + mc) (slots + ms) Q (F0 m (pc + 3) ls ((r.map (jcv G)).toList ++ rest))) : W p l e R s m args below meth c H locs cells slots Q (F0 m pc ls st0) := by
  intro T hT Xs
  obtain ⟨v, st₀, t, T', L, h0, X', hL, e1, e2, ⟨⟨hv, hw⟩, hz, hk⟩, stp⟩ := hr T hT Xs
  cases hv
  rw [h0] at hz hk
  rw [← e1] at hw hz hk
  obtain ⟨t2, a1, b1⟩ := kk T'.heap (locs ++ L) hw
    ⟨Nat.le_trans hS.1 hz, fun q h1 h2 => by rw [hk q (Nat.lt_of_lt_of_le h1 hS.1) h2]; exact hS.2.1 q h1 h2, fun q hq => by
      rcases List.mem_append.mp hq with h | h
      · exact hS.2.2 q h
      · exact hf _ (hL q h)⟩ T' rfl X'
  exact ⟨t2, stp t2 a1, b1⟩
theorem jPc_blind {vs : List Value} : FrameBlind (jPc G X vs σ) := by
  intro a U g mk q
  obtain ⟨h1, h2, h3⟩ := q
  refine ⟨h1, jK.moved (u := U) (U := U.calling g mk a) (Vm.Alike.refl U.vm) (Nat.le_refl _) (fun _ _ _ => rfl) h2, h3⟩
theorem jPc_at {vs : List Value} (hK : jK G X s) (hW : jWd G σ H) (hS : va_S (jA G) s.heap H locs) : ∀ U : State, U.heap = H → s.WarmedH U.vm → jPc G X vs σ (vs.map (jcv G)).toArray U := by
  intro U hU hV
  subst hU
  exact ⟨rfl, jK.moved hV.alike hS.1 hS.2.1 hK, hW⟩
theorem jcat_sum {st : List Value} : (((st.map (jcv G)).map fun v => v.category)).sum = ((st.map fun v => v.category)).sum := by
  rw [List.map_map]
  congr 1
  apply List.map_congr_left
  intro v _
  exact jcv_cat G v
theorem jgoodIn {M : jM} (h : Jvm.Cond.code M.1 M.2.1 M.2.2.1 M.2.2.2.1 ∈ jtb) : GoodIn jtb (jwsM M) := by
  intro w hw
  rcases List.mem_cons.mp hw with rfl | hw
  · exact ⟨h, jgood h⟩
  · exact ⟨hw, jgood hw⟩
theorem jstep_n {E : jE} (h : jstep X E pl st σ = some (.inl (pc', pl', st', σ'))) : σ.1 ≤ σ'.1 := by
  obtain ⟨pc, ins, len, ⟨a, b, k, w⟩, ⟨iv, lv, sw⟩⟩ := E
  cases ins <;> simp only [jstep, jldi, jldl, jlda, jsti, jstl, jsta, jinc, jo2, jo2d, jL2, jL2d, jlc, jcv1, jcv2, jif1, jif2, jsw, jdup, jdup2, jpop, jget, jput, jgst, jal, jiald, jlald, jcald, jaald, jiast, jlast, jcast, jaast, jnob, jnar, jcall, jret, jretl, jreta, jretv, jnx, jgo] at h <;> (repeat' split at h) <;> first
    | (cases h; done)
    | (simp only [Option.some.injEq, Sum.inl.injEq, Prod.mk.injEq] at h; obtain ⟨-, -, -, rfl⟩ := h; first | exact Nat.le_refl _ | exact Nat.le_succ _)
    | (simp at h)
theorem jpx_n {n : Nat} : ∀ {d : Nat} {es : List jE} {pc : Nat} {pl : jPL} {st : List Value} {σ : jS} {r : Option Value} {σ2 : jS}, px P X n d es pc pl st σ = some (r, σ2) → σ.1 ≤ σ2.1 := by
  induction n with
  | zero => intro d es pc pl st σ r σ2 h; simp [px] at h
  | succ n ih =>
    intro d es pc pl st σ r σ2 h
    unfold px at h
    split at h
    · cases h
    · split at h
      · cases h
      · next hst => exact Nat.le_trans (jstep_n hst) (ih h)
      · cases h; exact Nat.le_refl _
      · split at h
        · cases h
        · split at h
          · cases h
          · split at h
            · split at h
              · cases h
              · next h1 => exact Nat.le_trans (ih h1) (ih h)
            · cases h
end JQ
