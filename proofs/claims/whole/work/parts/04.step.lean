/-! Each step of the pure interpreter is a step of the machine -/
def jCx (G : jG) (X : jX) (own : String) (cc : ByteArray) (nL : Nat) (ini : Bool) (p : Program) (R : Room) (s : State) (m : MethodId) (args : Array Value) (meth : Method) (c : Code) : Prop :=
  p.tables.exec = Jvm.exec ∧ c.code = cc ∧ c.maxLocals = nL ∧ s.vm.findClass own = some m.cls ∧ (∀ w ∈ jtb, w.before args s = true) ∧ jK G X s ∧ (ini = true → meth.name = "<init>") ∧ 1 ≤ R.frames ∧ 20 ≤ R.locals
def jLs (G : jG) (ls : Array Slot) (nL : Nat) (pl : jPL) : Prop := ls.size = nL ∧ lv_wf ls ∧ pl.length = nL ∧ ∀ (i : Nat) (v : Value), pl[i]? = some (some v) → ls[i]? = some (.val (jcv G v))
theorem jgetD {pl : jPL} {i : Nat} {v : Value} (h : pl.getD i none = some v) : pl[i]? = some (some v) := by
  rw [List.getD_eq_getElem?_getD] at h
  cases hq : pl[i]? with
  | none => rw [hq] at h; cases h
  | some x => rw [hq] at h; exact congrArg some h
theorem jLs.at {G : jG} {ls : Array Slot} {nL : Nat} {pl : jPL} (h : jLs G ls nL pl) {i : Nat} {v : Value} (hv : pl.getD i none = some v) : ls[i]? = some (.val (jcv G v)) := h.2.2.2 i v (jgetD hv)
def jlv (G : jG) (pl : jPL) : List (Nat × Value) := (List.range pl.length).filterMap (fun i => (pl.getD i none).map (fun v => (i, jcv G v)))
theorem jlv_mem {G : jG} {pl : jPL} {q : Nat × Value} : q ∈ jlv G pl ↔ ∃ v, pl[q.1]? = some (some v) ∧ q.2 = jcv G v := by
  simp only [jlv, List.mem_filterMap, List.mem_range, Option.map_eq_some_iff]
  constructor
  · rintro ⟨i, hi, v, hv, rfl⟩
    exact ⟨v, jgetD hv, rfl⟩
  · rintro ⟨v, hv, h2⟩
    refine ⟨q.1, (List.getElem?_eq_some_iff.mp hv).1, v, ?_, by rw [← h2]⟩
    rw [List.getD_eq_getElem?_getD, hv]
    rfl
theorem jlv_has {G : jG} {ls : Array Slot} {nL : Nat} {pl : jPL} (h : jLs G ls nL pl) : lv_has ls nL (jlv G pl) := by
  refine ⟨h.1, h.2.1, fun q hq => ?_⟩
  obtain ⟨v, h1, h2⟩ := jlv_mem.mp hq
  rw [h2]
  exact h.2.2.2 _ _ h1
theorem jil_cat {v : Value} : jil (some v) = true ↔ v.category = 2 := by
  cases v <;> simp [jil, Value.category]
theorem jkl_at (pl : jPL) (i j : Nat) : (jkl pl i)[j]? = if j + 1 = i ∧ jil (pl.getD j none) = true ∧ j < pl.length then some none else pl[j]? := by
  cases i with
  | zero => rw [if_neg (fun z => by omega)]; rfl
  | succ i =>
    show (if jil (pl.getD i none) = true then pl.set i none else pl)[j]? = _
    by_cases hq : jil (pl.getD i none) = true
    · rw [if_pos hq, List.getElem?_set]
      by_cases hj : i = j
      · subst hj
        by_cases hl : i < pl.length
        · rw [if_pos rfl, if_pos hl, if_pos ⟨rfl, hq, hl⟩]
        · rw [if_pos rfl, if_neg hl, if_neg (fun z => hl z.2.2), List.getElem?_eq_none (by omega)]
      · rw [if_neg hj, if_neg (fun z => hj (by omega))]
    · rw [if_neg hq, if_neg]
      intro z
      have : j = i := by omega
      subst this
      exact hq z.2.1
theorem jkl_len (pl : jPL) (i : Nat) : (jkl pl i).length = pl.length := by
  cases i with
  | zero => rfl
  | succ i =>
    show (if jil (pl.getD i none) = true then pl.set i none else pl).length = _
    split <;> simp
theorem jLs_s1 {G : jG} {ls ls' : Array Slot} {nL i : Nat} {pl : jPL} {v : Value} (h : jLs G ls nL pl) (h' : lv_has ls' nL ((i, jcv G v) :: (jlv G pl).filter (fun q => !(q.1 == i) && !(q.1 + 1 == i && q.2.category == 2)))) : jLs G ls' nL (js1 pl i v) := by
  refine ⟨h'.1, h'.2.1, by simp [js1, jkl_len, h.2.2.1], fun j w hw => ?_⟩
  unfold js1 at hw
  rw [List.getElem?_set] at hw
  by_cases hj : i = j
  · subst hj
    simp only [if_true] at hw
    split at hw
    · cases hw
      exact h'.2.2 (i, jcv G v) List.mem_cons_self
    · cases hw
  · rw [if_neg hj, jkl_at] at hw
    split at hw
    · cases hw
    · next hq =>
      refine h'.2.2 (j, jcv G w) (List.mem_cons_of_mem _ (List.mem_filter.mpr ⟨jlv_mem.mpr ⟨w, hw, rfl⟩, ?_⟩))
      have hl : j < pl.length := (List.getElem?_eq_some_iff.mp hw).1
      have hg : pl.getD j none = some w := by rw [List.getD_eq_getElem?_getD, hw]; rfl
      simp only [Bool.and_eq_true, Bool.not_eq_true', beq_eq_false_iff_ne, ne_eq, Bool.and_eq_false_iff, jcv_cat]
      refine ⟨fun z => hj z.symm, ?_⟩
      by_cases h1 : j + 1 = i
      · right
        intro h2
        exact hq ⟨h1, by rw [hg]; exact jil_cat.mpr h2, hl⟩
      · left
        exact h1
theorem jLs_s2 {G : jG} {ls ls' : Array Slot} {nL i : Nat} {pl : jPL} {v : Value} (h : jLs G ls nL pl) (h' : lv_has ls' nL ((i, jcv G v) :: (jlv G pl).filter (fun q => !(q.1 == i) && (!(q.1 == i + 1) && !(q.1 + 1 == i && q.2.category == 2))))) : jLs G ls' nL (js2 pl i v) := by
  refine ⟨h'.1, h'.2.1, by simp [js2, jkl_len, h.2.2.1], fun j w hw => ?_⟩
  unfold js2 at hw
  rw [List.getElem?_set] at hw
  by_cases hj1 : i + 1 = j
  · rw [if_pos hj1] at hw
    split at hw <;> cases hw
  · rw [if_neg hj1, List.getElem?_set] at hw
    by_cases hj : i = j
    · subst hj
      simp only [if_true] at hw
      split at hw
      · cases hw
        exact h'.2.2 (i, jcv G v) List.mem_cons_self
      · cases hw
    · rw [if_neg hj, jkl_at] at hw
      split at hw
      · cases hw
      · next hq =>
        refine h'.2.2 (j, jcv G w) (List.mem_cons_of_mem _ (List.mem_filter.mpr ⟨jlv_mem.mpr ⟨w, hw, rfl⟩, ?_⟩))
        have hl : j < pl.length := (List.getElem?_eq_some_iff.mp hw).1
        have hg : pl.getD j none = some w := by rw [List.getD_eq_getElem?_getD, hw]; rfl
        simp only [Bool.and_eq_true, Bool.not_eq_true', beq_eq_false_iff_ne, ne_eq, Bool.and_eq_false_iff, jcv_cat]
        refine ⟨fun z => hj z.symm, fun z => hj1 z.symm, ?_⟩
        by_cases h1 : j + 1 = i
        · right
          intro h2
          exact hq ⟨h1, by rw [hg]; exact jil_cat.mpr h2, hl⟩
        · left
          exact h1
def jcn (n0 n : Nat) : Nat := n - n0
def jsn (n0 n : Nat) : Nat := ((List.range (n - n0)).map (fun j => (jsh (n0 + 1 + j)).2)).sum
theorem jcn_1 {n0 n : Nat} (h : n0 ≤ n) : jcn n0 (n + 1) = jcn n0 n + 1 := by unfold jcn; omega
theorem jsn_1 {n0 n : Nat} (h : n0 ≤ n) : jsn n0 (n + 1) = jsn n0 n + (jsh (n + 1)).2 := by
  unfold jsn
  rw [show n + 1 - n0 = (n - n0) + 1 by omega, List.range_succ, List.map_append, List.sum_append]
  simp only [List.map_cons, List.map_nil, List.sum_cons, List.sum_nil, Nat.add_zero]
  rw [show n0 + 1 + (n - n0) = n + 1 by omega]
section JS
variable {p : Program} {l : Launch} {e : Env} {R : Room} {s : State} {m : MethodId} {args : Array Value} {below : List Frame} {meth : Method} {c : Code} {Q : State → Prop}
variable {G : jG} {X : jX} {own : String} {cc : ByteArray} {nL n0 : Nat} {ini : Bool} {S : List jSg} {ret : Option FieldType}
def jWc (G : jG) (nL n0 : Nat) (p : Program) (l : Launch) (e : Env) (R : Room) (s : State) (m : MethodId) (args : Array Value) (below : List Frame) (meth : Method) (c : Code) (Q : State → Prop) (pc : Nat) (pl : jPL) (st : List Value) (σ : jS) : Prop :=
  ∀ (ls : Array Slot) (H : Heap) (locs : List Loc), n0 ≤ σ.1 → jLs G ls nL pl → jWd G σ H → va_S (jA G) s.heap H locs → W p l e R s m args below meth c H locs (jcn n0 σ.1) (jsn n0 σ.1) Q (F0 m pc ls (st.map (jcv G)))
variable {pc : Nat} {pl pl' : jPL} {st st' : List Value} {σ σ' : jS} {pc' len a b k w : Nat} {iv : Int32} {lv : Int64} {sw : List (Int32 × Nat)} {ins : Instr}
theorem jnx_eq {E : jE} (h : jnx E pl st σ = some (.inl (pc', pl', st', σ'))) : pc' = E.1 + E.2.2.1 ∧ pl' = pl ∧ st' = st ∧ σ' = σ := by
  simp only [jnx, Option.some.injEq, Sum.inl.injEq, Prod.mk.injEq] at h
  exact ⟨h.1.symm, h.2.1.symm, h.2.2.1.symm, h.2.2.2.symm⟩
theorem jgo_eq {t : Nat} (h : jgo t pl st σ = some (.inl (pc', pl', st', σ'))) : pc' = t ∧ pl' = pl ∧ st' = st ∧ σ' = σ := by
  simp only [jgo, Option.some.injEq, Sum.inl.injEq, Prod.mk.injEq] at h
  exact ⟨h.1.symm, h.2.1.symm, h.2.2.1.symm, h.2.2.2.symm⟩
theorem jokE_of (h : jokE S own cc ini ret (pc, ins, len, (a, b, k, w), (iv, lv, sw)) = true) : decode cc pc = .ok (ins, len) ∧ jokI S own ini ret (pc, ins, len, (a, b, k, w), (iv, lv, sw)) = true := by
  simp only [jokE, Bool.and_eq_true, decide_eq_true_eq] at h
  exact h
theorem jw_iload_n {q : Fin 4} (cx : jCx G X own cc nL ini p R s m args meth c) (hd : decode cc pc = .ok (.iload_n q, len)) (hi : jokI S own ini ret (pc, .iload_n q, len, (a, b, k, w), (iv, lv, sw)) = true) (hs : jstep X (pc, .iload_n q, len, (a, b, k, w), (iv, lv, sw)) pl st σ = some (.inl (pc', pl', st', σ')))
    (kk : jWc G nL n0 p l e R s m args below meth c Q pc' pl' st' σ') : jWc G nL n0 p l e R s m args below meth c Q pc pl st σ := by
  obtain ⟨hx, hb, hml, hown, hts, hK, hin, hfr, hlo⟩ := cx
  obtain rfl : len = 1 := by simpa [jokI] using hi
  simp only [jstep, jldi] at hs
  split at hs
  · next x hg =>
    obtain ⟨rfl, rfl, rfl, rfl⟩ := jnx_eq hs
    intro ls H locs hn hl hW hS
    exact lv_iload_n hx hb hd rfl (hl.at hg) (kk ls H locs hn hl hW hS)
  · cases hs
theorem jw_lload_n {q : Fin 4} (cx : jCx G X own cc nL ini p R s m args meth c) (hd : decode cc pc = .ok (.lload_n q, len)) (hi : jokI S own ini ret (pc, .lload_n q, len, (a, b, k, w), (iv, lv, sw)) = true) (hs : jstep X (pc, .lload_n q, len, (a, b, k, w), (iv, lv, sw)) pl st σ = some (.inl (pc', pl', st', σ')))
    (kk : jWc G nL n0 p l e R s m args below meth c Q pc' pl' st' σ') : jWc G nL n0 p l e R s m args below meth c Q pc pl st σ := by
  obtain ⟨hx, hb, hml, hown, hts, hK, hin, hfr, hlo⟩ := cx
  obtain rfl : len = 1 := by simpa [jokI] using hi
  simp only [jstep, jldl] at hs
  split at hs
  · next x hg =>
    obtain ⟨rfl, rfl, rfl, rfl⟩ := jnx_eq hs
    intro ls H locs hn hl hW hS
    exact lv_lload_n hx hb hd rfl (hl.at hg) (kk ls H locs hn hl hW hS)
  · cases hs
theorem jw_iload {q : Nat} (cx : jCx G X own cc nL ini p R s m args meth c) (hd : decode cc pc = .ok (.iload q, len)) (hi : jokI S own ini ret (pc, .iload q, len, (a, b, k, w), (iv, lv, sw)) = true) (hs : jstep X (pc, .iload q, len, (a, b, k, w), (iv, lv, sw)) pl st σ = some (.inl (pc', pl', st', σ')))
    (kk : jWc G nL n0 p l e R s m args below meth c Q pc' pl' st' σ') : jWc G nL n0 p l e R s m args below meth c Q pc pl st σ := by
  obtain ⟨hx, hb, hml, hown, hts, hK, hin, hfr, hlo⟩ := cx
  obtain rfl : len = 2 := by simpa [jokI] using hi
  simp only [jstep, jldi] at hs
  split at hs
  · next x hg =>
    obtain ⟨rfl, rfl, rfl, rfl⟩ := jnx_eq hs
    intro ls H locs hn hl hW hS
    exact lv_iload hx hb hd (hl.at hg) (kk ls H locs hn hl hW hS)
  · cases hs
theorem jw_lload {q : Nat} (cx : jCx G X own cc nL ini p R s m args meth c) (hd : decode cc pc = .ok (.lload q, len)) (hi : jokI S own ini ret (pc, .lload q, len, (a, b, k, w), (iv, lv, sw)) = true) (hs : jstep X (pc, .lload q, len, (a, b, k, w), (iv, lv, sw)) pl st σ = some (.inl (pc', pl', st', σ')))
    (kk : jWc G nL n0 p l e R s m args below meth c Q pc' pl' st' σ') : jWc G nL n0 p l e R s m args below meth c Q pc pl st σ := by
  obtain ⟨hx, hb, hml, hown, hts, hK, hin, hfr, hlo⟩ := cx
  obtain rfl : len = 2 := by simpa [jokI] using hi
  simp only [jstep, jldl] at hs
  split at hs
  · next x hg =>
    obtain ⟨rfl, rfl, rfl, rfl⟩ := jnx_eq hs
    intro ls H locs hn hl hW hS
    exact lv_lload hx hb hd (hl.at hg) (kk ls H locs hn hl hW hS)
  · cases hs
theorem jw_aload_n {q : Fin 4} (cx : jCx G X own cc nL ini p R s m args meth c) (hd : decode cc pc = .ok (.aload_n q, len)) (hi : jokI S own ini ret (pc, .aload_n q, len, (a, b, k, w), (iv, lv, sw)) = true) (hs : jstep X (pc, .aload_n q, len, (a, b, k, w), (iv, lv, sw)) pl st σ = some (.inl (pc', pl', st', σ')))
    (kk : jWc G nL n0 p l e R s m args below meth c Q pc' pl' st' σ') : jWc G nL n0 p l e R s m args below meth c Q pc pl st σ := by
  obtain ⟨hx, hb, hml, hown, hts, hK, hin, hfr, hlo⟩ := cx
  obtain rfl : len = 1 := by simpa [jokI] using hi
  simp only [jstep, jlda] at hs
  split at hs
  · next x hg =>
    obtain ⟨rfl, rfl, rfl, rfl⟩ := jnx_eq hs
    intro ls H locs hn hl hW hS
    have h1 := hl.at hg
    have h2 := kk ls H locs hn hl hW hS
    by_cases h0 : x = 0
    · subst h0
      exact lv_aload_nN hx hb hd rfl h1 h2
    · simp only [jcv, if_neg h0] at h1
      simp only [List.map_cons, jcv, if_neg h0] at h2
      exact lv_aload_n hx hb hd rfl h1 h2
  · cases hs
theorem jw_aload {q : Nat} (cx : jCx G X own cc nL ini p R s m args meth c) (hd : decode cc pc = .ok (.aload q, len)) (hi : jokI S own ini ret (pc, .aload q, len, (a, b, k, w), (iv, lv, sw)) = true) (hs : jstep X (pc, .aload q, len, (a, b, k, w), (iv, lv, sw)) pl st σ = some (.inl (pc', pl', st', σ')))
    (kk : jWc G nL n0 p l e R s m args below meth c Q pc' pl' st' σ') : jWc G nL n0 p l e R s m args below meth c Q pc pl st σ := by
  obtain ⟨hx, hb, hml, hown, hts, hK, hin, hfr, hlo⟩ := cx
  obtain rfl : len = 2 := by simpa [jokI] using hi
  simp only [jstep, jlda] at hs
  split at hs
  · next x hg =>
    obtain ⟨rfl, rfl, rfl, rfl⟩ := jnx_eq hs
    intro ls H locs hn hl hW hS
    have h1 := hl.at hg
    have h2 := kk ls H locs hn hl hW hS
    by_cases h0 : x = 0
    · subst h0
      exact lv_aloadN hx hb hd h1 h2
    · simp only [jcv, if_neg h0] at h1
      simp only [List.map_cons, jcv, if_neg h0] at h2
      exact lv_aload hx hb hd h1 h2
  · cases hs
theorem jw_istore_n {q : Fin 4} (cx : jCx G X own cc nL ini p R s m args meth c) (hd : decode cc pc = .ok (.istore_n q, len)) (hi : jokI S own ini ret (pc, .istore_n q, len, (a, b, k, w), (iv, lv, sw)) = true) (hs : jstep X (pc, .istore_n q, len, (a, b, k, w), (iv, lv, sw)) pl st σ = some (.inl (pc', pl', st', σ')))
    (kk : jWc G nL n0 p l e R s m args below meth c Q pc' pl' st' σ') : jWc G nL n0 p l e R s m args below meth c Q pc pl st σ := by
  obtain ⟨hx, hb, hml, hown, hts, hK, hin, hfr, hlo⟩ := cx
  obtain rfl : len = 1 := by simpa [jokI] using hi
  simp only [jstep, jsti] at hs
  split at hs
  · next x r =>
    split at hs
    · next hq =>
      obtain ⟨rfl, rfl, rfl, rfl⟩ := jnx_eq hs
      intro ls H locs hn hl hW hS
      refine lv_istore_n hx hb hd rfl (jlv_has hl) (by rw [← hl.2.2.1]; exact hq) rfl (fun ls' hl' => ?_)
      exact kk ls' H locs hn (jLs_s1 hl hl') hW hS
    · cases hs
  · cases hs
theorem jw_istore {q : Nat} (cx : jCx G X own cc nL ini p R s m args meth c) (hd : decode cc pc = .ok (.istore q, len)) (hi : jokI S own ini ret (pc, .istore q, len, (a, b, k, w), (iv, lv, sw)) = true) (hs : jstep X (pc, .istore q, len, (a, b, k, w), (iv, lv, sw)) pl st σ = some (.inl (pc', pl', st', σ')))
    (kk : jWc G nL n0 p l e R s m args below meth c Q pc' pl' st' σ') : jWc G nL n0 p l e R s m args below meth c Q pc pl st σ := by
  obtain ⟨hx, hb, hml, hown, hts, hK, hin, hfr, hlo⟩ := cx
  obtain rfl : len = 2 := by simpa [jokI] using hi
  simp only [jstep, jsti] at hs
  split at hs
  · next x r =>
    split at hs
    · next hq =>
      obtain ⟨rfl, rfl, rfl, rfl⟩ := jnx_eq hs
      intro ls H locs hn hl hW hS
      refine lv_istore hx hb hd (jlv_has hl) (by rw [← hl.2.2.1]; exact hq) rfl (fun ls' hl' => ?_)
      exact kk ls' H locs hn (jLs_s1 hl hl') hW hS
    · cases hs
  · cases hs
theorem jw_lstore_n {q : Fin 4} (cx : jCx G X own cc nL ini p R s m args meth c) (hd : decode cc pc = .ok (.lstore_n q, len)) (hi : jokI S own ini ret (pc, .lstore_n q, len, (a, b, k, w), (iv, lv, sw)) = true) (hs : jstep X (pc, .lstore_n q, len, (a, b, k, w), (iv, lv, sw)) pl st σ = some (.inl (pc', pl', st', σ')))
    (kk : jWc G nL n0 p l e R s m args below meth c Q pc' pl' st' σ') : jWc G nL n0 p l e R s m args below meth c Q pc pl st σ := by
  obtain ⟨hx, hb, hml, hown, hts, hK, hin, hfr, hlo⟩ := cx
  obtain rfl : len = 1 := by simpa [jokI] using hi
  simp only [jstep, jstl] at hs
  split at hs
  · next x r =>
    split at hs
    · next hq =>
      obtain ⟨rfl, rfl, rfl, rfl⟩ := jnx_eq hs
      intro ls H locs hn hl hW hS
      refine lv_lstore_n hx hb hd rfl (jlv_has hl) (by rw [← hl.2.2.1]; exact hq) rfl (fun ls' hl' => ?_)
      exact kk ls' H locs hn (jLs_s2 hl hl') hW hS
    · cases hs
  · cases hs
theorem jw_lstore {q : Nat} (cx : jCx G X own cc nL ini p R s m args meth c) (hd : decode cc pc = .ok (.lstore q, len)) (hi : jokI S own ini ret (pc, .lstore q, len, (a, b, k, w), (iv, lv, sw)) = true) (hs : jstep X (pc, .lstore q, len, (a, b, k, w), (iv, lv, sw)) pl st σ = some (.inl (pc', pl', st', σ')))
    (kk : jWc G nL n0 p l e R s m args below meth c Q pc' pl' st' σ') : jWc G nL n0 p l e R s m args below meth c Q pc pl st σ := by
  obtain ⟨hx, hb, hml, hown, hts, hK, hin, hfr, hlo⟩ := cx
  obtain rfl : len = 2 := by simpa [jokI] using hi
  simp only [jstep, jstl] at hs
  split at hs
  · next x r =>
    split at hs
    · next hq =>
      obtain ⟨rfl, rfl, rfl, rfl⟩ := jnx_eq hs
      intro ls H locs hn hl hW hS
      refine lv_lstore hx hb hd (jlv_has hl) (by rw [← hl.2.2.1]; exact hq) rfl (fun ls' hl' => ?_)
      exact kk ls' H locs hn (jLs_s2 hl hl') hW hS
    · cases hs
  · cases hs
theorem jw_astore_n {q : Fin 4} (cx : jCx G X own cc nL ini p R s m args meth c) (hd : decode cc pc = .ok (.astore_n q, len)) (hi : jokI S own ini ret (pc, .astore_n q, len, (a, b, k, w), (iv, lv, sw)) = true) (hs : jstep X (pc, .astore_n q, len, (a, b, k, w), (iv, lv, sw)) pl st σ = some (.inl (pc', pl', st', σ')))
    (kk : jWc G nL n0 p l e R s m args below meth c Q pc' pl' st' σ') : jWc G nL n0 p l e R s m args below meth c Q pc pl st σ := by
  obtain ⟨hx, hb, hml, hown, hts, hK, hin, hfr, hlo⟩ := cx
  obtain rfl : len = 1 := by simpa [jokI] using hi
  simp only [jstep, jsta] at hs
  split at hs
  · next x r =>
    split at hs
    · next hq =>
      obtain ⟨rfl, rfl, rfl, rfl⟩ := jnx_eq hs
      intro ls H locs hn hl hW hS
      by_cases h0 : x = 0
      · subst h0
        refine lv_astore_nN hx hb hd rfl (jlv_has hl) (by rw [← hl.2.2.1]; exact hq) rfl (fun ls' hl' => ?_)
        exact kk ls' H locs hn (jLs_s1 (v := .ref 0) hl hl') hW hS
      · simp only [List.map_cons, jcv, if_neg h0]
        refine lv_astore_n hx hb hd rfl (jlv_has hl) (by rw [← hl.2.2.1]; exact hq) rfl (fun ls' hl' => ?_)
        refine kk ls' H locs hn (jLs_s1 (v := .ref x) hl ?_) hW hS
        simp only [jcv, if_neg h0]
        exact hl'
    · cases hs
  · cases hs
theorem jw_astore {q : Nat} (cx : jCx G X own cc nL ini p R s m args meth c) (hd : decode cc pc = .ok (.astore q, len)) (hi : jokI S own ini ret (pc, .astore q, len, (a, b, k, w), (iv, lv, sw)) = true) (hs : jstep X (pc, .astore q, len, (a, b, k, w), (iv, lv, sw)) pl st σ = some (.inl (pc', pl', st', σ')))
    (kk : jWc G nL n0 p l e R s m args below meth c Q pc' pl' st' σ') : jWc G nL n0 p l e R s m args below meth c Q pc pl st σ := by
  obtain ⟨hx, hb, hml, hown, hts, hK, hin, hfr, hlo⟩ := cx
  obtain rfl : len = 2 := by simpa [jokI] using hi
  simp only [jstep, jsta] at hs
  split at hs
  · next x r =>
    split at hs
    · next hq =>
      obtain ⟨rfl, rfl, rfl, rfl⟩ := jnx_eq hs
      intro ls H locs hn hl hW hS
      by_cases h0 : x = 0
      · subst h0
        refine lv_astoreN hx hb hd (jlv_has hl) (by rw [← hl.2.2.1]; exact hq) rfl (fun ls' hl' => ?_)
        exact kk ls' H locs hn (jLs_s1 (v := .ref 0) hl hl') hW hS
      · simp only [List.map_cons, jcv, if_neg h0]
        refine lv_astore hx hb hd (jlv_has hl) (by rw [← hl.2.2.1]; exact hq) rfl (fun ls' hl' => ?_)
        refine kk ls' H locs hn (jLs_s1 (v := .ref x) hl ?_) hW hS
        simp only [jcv, if_neg h0]
        exact hl'
    · cases hs
  · cases hs
theorem jw_iinc {q : Nat} {z : Int} (cx : jCx G X own cc nL ini p R s m args meth c) (hd : decode cc pc = .ok (.iinc q z, len)) (hi : jokI S own ini ret (pc, .iinc q z, len, (a, b, k, w), (iv, lv, sw)) = true) (hs : jstep X (pc, .iinc q z, len, (a, b, k, w), (iv, lv, sw)) pl st σ = some (.inl (pc', pl', st', σ')))
    (kk : jWc G nL n0 p l e R s m args below meth c Q pc' pl' st' σ') : jWc G nL n0 p l e R s m args below meth c Q pc pl st σ := by
  obtain ⟨hx, hb, hml, hown, hts, hK, hin, hfr, hlo⟩ := cx
  obtain ⟨rfl, hv⟩ : len = 3 ∧ Int32.ofInt z = iv := by simpa [jokI] using hi
  simp only [jstep, jinc] at hs
  split at hs
  · next x hg =>
    split at hs
    · next hq =>
      obtain ⟨rfl, rfl, rfl, rfl⟩ := jnx_eq hs
      intro ls H locs hn hl hW hS
      obtain ⟨kq, hkq⟩ := List.getElem?_of_mem (jlv_mem (G := G).mpr ⟨_, jgetD hg, rfl⟩ : ((q, jcv G (.int x)) : Nat × Value) ∈ jlv G pl)
      refine lv_iinc hx hb hd (jlv_has hl) hkq (v := x + iv) (by rw [← hv]) (by rw [← hl.2.2.1]; exact hq) rfl (fun ls' hl' => ?_)
      exact kk ls' H locs hn (jLs_s1 (v := .int (x + iv)) hl hl') hW hS
    · cases hs
  · cases hs
theorem jw_iconst {z : Int} (cx : jCx G X own cc nL ini p R s m args meth c) (hd : decode cc pc = .ok (.iconst z, len)) (hi : jokI S own ini ret (pc, .iconst z, len, (a, b, k, w), (iv, lv, sw)) = true) (hs : jstep X (pc, .iconst z, len, (a, b, k, w), (iv, lv, sw)) pl st σ = some (.inl (pc', pl', st', σ')))
    (kk : jWc G nL n0 p l e R s m args below meth c Q pc' pl' st' σ') : jWc G nL n0 p l e R s m args below meth c Q pc pl st σ := by
  obtain ⟨hx, hb, hml, hown, hts, hK, hin, hfr, hlo⟩ := cx
  obtain ⟨rfl, hv⟩ : len = 1 ∧ Int32.ofInt z = iv := by simpa [jokI] using hi
  simp only [jstep] at hs
  obtain ⟨rfl, rfl, rfl, rfl⟩ := jnx_eq hs
  intro ls H locs hn hl hW hS
  exact lv_iconst hx hb hd hv (kk ls H locs hn hl hW hS)
theorem jw_bipush {z : Int} (cx : jCx G X own cc nL ini p R s m args meth c) (hd : decode cc pc = .ok (.bipush z, len)) (hi : jokI S own ini ret (pc, .bipush z, len, (a, b, k, w), (iv, lv, sw)) = true) (hs : jstep X (pc, .bipush z, len, (a, b, k, w), (iv, lv, sw)) pl st σ = some (.inl (pc', pl', st', σ')))
    (kk : jWc G nL n0 p l e R s m args below meth c Q pc' pl' st' σ') : jWc G nL n0 p l e R s m args below meth c Q pc pl st σ := by
  obtain ⟨hx, hb, hml, hown, hts, hK, hin, hfr, hlo⟩ := cx
  obtain ⟨rfl, hv⟩ : len = 2 ∧ (Int8.ofInt z).toInt32 = iv := by simpa [jokI] using hi
  simp only [jstep] at hs
  obtain ⟨rfl, rfl, rfl, rfl⟩ := jnx_eq hs
  intro ls H locs hn hl hW hS
  exact lv_bipush hx hb hd hv (kk ls H locs hn hl hW hS)
theorem jw_sipush {z : Int} (cx : jCx G X own cc nL ini p R s m args meth c) (hd : decode cc pc = .ok (.sipush z, len)) (hi : jokI S own ini ret (pc, .sipush z, len, (a, b, k, w), (iv, lv, sw)) = true) (hs : jstep X (pc, .sipush z, len, (a, b, k, w), (iv, lv, sw)) pl st σ = some (.inl (pc', pl', st', σ')))
    (kk : jWc G nL n0 p l e R s m args below meth c Q pc' pl' st' σ') : jWc G nL n0 p l e R s m args below meth c Q pc pl st σ := by
  obtain ⟨hx, hb, hml, hown, hts, hK, hin, hfr, hlo⟩ := cx
  obtain ⟨rfl, hv⟩ : len = 3 ∧ (Int16.ofInt z).toInt32 = iv := by simpa [jokI] using hi
  simp only [jstep] at hs
  obtain ⟨rfl, rfl, rfl, rfl⟩ := jnx_eq hs
  intro ls H locs hn hl hW hS
  exact lv_sipush hx hb hd hv (kk ls H locs hn hl hW hS)
theorem jw_lconst {z : Fin 2} (cx : jCx G X own cc nL ini p R s m args meth c) (hd : decode cc pc = .ok (.lconst z, len)) (hi : jokI S own ini ret (pc, .lconst z, len, (a, b, k, w), (iv, lv, sw)) = true) (hs : jstep X (pc, .lconst z, len, (a, b, k, w), (iv, lv, sw)) pl st σ = some (.inl (pc', pl', st', σ')))
    (kk : jWc G nL n0 p l e R s m args below meth c Q pc' pl' st' σ') : jWc G nL n0 p l e R s m args below meth c Q pc pl st σ := by
  obtain ⟨hx, hb, hml, hown, hts, hK, hin, hfr, hlo⟩ := cx
  obtain ⟨rfl, hv⟩ : len = 1 ∧ Int64.ofNat z.val = lv := by simpa [jokI] using hi
  simp only [jstep] at hs
  obtain ⟨rfl, rfl, rfl, rfl⟩ := jnx_eq hs
  intro ls H locs hn hl hW hS
  exact lv_lconst hx hb hd hv (kk ls H locs hn hl hW hS)
theorem jw_ldc {z : Nat} (cx : jCx G X own cc nL ini p R s m args meth c) (hd : decode cc pc = .ok (.ldc z, len)) (hi : jokI S own ini ret (pc, .ldc z, len, (a, b, k, w), (iv, lv, sw)) = true) (hs : jstep X (pc, .ldc z, len, (a, b, k, w), (iv, lv, sw)) pl st σ = some (.inl (pc', pl', st', σ')))
    (kk : jWc G nL n0 p l e R s m args below meth c Q pc' pl' st' σ') : jWc G nL n0 p l e R s m args below meth c Q pc pl st σ := by
  obtain ⟨hx, hb, hml, hown, hts, hK, hin, hfr, hlo⟩ := cx
  obtain ⟨rfl, hv⟩ : len = 2 ∧ jW3 w (.constant own z iv) = true := by simpa [jokI] using hi
  simp only [jstep] at hs
  obtain ⟨rfl, rfl, rfl, rfl⟩ := jnx_eq hs
  intro ls H locs hn hl hW hS
  exact lv_ldc hx hb hown (hts _ (jW3_in hv)) hd (kk ls H locs hn hl hW hS)
theorem jw_ldc_w {z : Nat} (cx : jCx G X own cc nL ini p R s m args meth c) (hd : decode cc pc = .ok (.ldc_w z, len)) (hi : jokI S own ini ret (pc, .ldc_w z, len, (a, b, k, w), (iv, lv, sw)) = true) (hs : jstep X (pc, .ldc_w z, len, (a, b, k, w), (iv, lv, sw)) pl st σ = some (.inl (pc', pl', st', σ')))
    (kk : jWc G nL n0 p l e R s m args below meth c Q pc' pl' st' σ') : jWc G nL n0 p l e R s m args below meth c Q pc pl st σ := by
  obtain ⟨hx, hb, hml, hown, hts, hK, hin, hfr, hlo⟩ := cx
  obtain ⟨rfl, hv⟩ : len = 3 ∧ jW3 w (.constant own z iv) = true := by simpa [jokI] using hi
  simp only [jstep] at hs
  obtain ⟨rfl, rfl, rfl, rfl⟩ := jnx_eq hs
  intro ls H locs hn hl hW hS
  exact lv_ldcw hx hb hown (hts _ (jW3_in hv)) hd (kk ls H locs hn hl hW hS)
theorem jw_ldc2_w {z : Nat} (cx : jCx G X own cc nL ini p R s m args meth c) (hd : decode cc pc = .ok (.ldc2_w z, len)) (hi : jokI S own ini ret (pc, .ldc2_w z, len, (a, b, k, w), (iv, lv, sw)) = true) (hs : jstep X (pc, .ldc2_w z, len, (a, b, k, w), (iv, lv, sw)) pl st σ = some (.inl (pc', pl', st', σ')))
    (kk : jWc G nL n0 p l e R s m args below meth c Q pc' pl' st' σ') : jWc G nL n0 p l e R s m args below meth c Q pc pl st σ := by
  obtain ⟨hx, hb, hml, hown, hts, hK, hin, hfr, hlo⟩ := cx
  obtain ⟨rfl, hv⟩ : len = 3 ∧ jW3 w (.constantLong own z lv) = true := by simpa [jokI] using hi
  simp only [jstep] at hs
  obtain ⟨rfl, rfl, rfl, rfl⟩ := jnx_eq hs
  intro ls H locs hn hl hW hS
  exact lv_ldc2 hx hb hown (hts _ (jW3_in hv)) hd (kk ls H locs hn hl hW hS)
theorem jw_iadd (cx : jCx G X own cc nL ini p R s m args meth c) (hd : decode cc pc = .ok (.iadd, len)) (hi : jokI S own ini ret (pc, .iadd, len, (a, b, k, w), (iv, lv, sw)) = true) (hs : jstep X (pc, .iadd, len, (a, b, k, w), (iv, lv, sw)) pl st σ = some (.inl (pc', pl', st', σ')))
    (kk : jWc G nL n0 p l e R s m args below meth c Q pc' pl' st' σ') : jWc G nL n0 p l e R s m args below meth c Q pc pl st σ := by
  obtain ⟨hx, hb, hml, hown, hts, hK, hin, hfr, hlo⟩ := cx
  obtain rfl : len = 1 := by simpa [jokI] using hi
  simp only [jstep, jo2] at hs
  split at hs
  · obtain ⟨rfl, rfl, rfl, rfl⟩ := jnx_eq hs
    intro ls H locs hn hl hW hS
    exact lv_iadd hx hb hd (kk ls H locs hn hl hW hS)
  · cases hs
theorem jw_isub (cx : jCx G X own cc nL ini p R s m args meth c) (hd : decode cc pc = .ok (.isub, len)) (hi : jokI S own ini ret (pc, .isub, len, (a, b, k, w), (iv, lv, sw)) = true) (hs : jstep X (pc, .isub, len, (a, b, k, w), (iv, lv, sw)) pl st σ = some (.inl (pc', pl', st', σ')))
    (kk : jWc G nL n0 p l e R s m args below meth c Q pc' pl' st' σ') : jWc G nL n0 p l e R s m args below meth c Q pc pl st σ := by
  obtain ⟨hx, hb, hml, hown, hts, hK, hin, hfr, hlo⟩ := cx
  obtain rfl : len = 1 := by simpa [jokI] using hi
  simp only [jstep, jo2] at hs
  split at hs
  · obtain ⟨rfl, rfl, rfl, rfl⟩ := jnx_eq hs
    intro ls H locs hn hl hW hS
    exact lv_isub hx hb hd (kk ls H locs hn hl hW hS)
  · cases hs
theorem jw_imul (cx : jCx G X own cc nL ini p R s m args meth c) (hd : decode cc pc = .ok (.imul, len)) (hi : jokI S own ini ret (pc, .imul, len, (a, b, k, w), (iv, lv, sw)) = true) (hs : jstep X (pc, .imul, len, (a, b, k, w), (iv, lv, sw)) pl st σ = some (.inl (pc', pl', st', σ')))
    (kk : jWc G nL n0 p l e R s m args below meth c Q pc' pl' st' σ') : jWc G nL n0 p l e R s m args below meth c Q pc pl st σ := by
  obtain ⟨hx, hb, hml, hown, hts, hK, hin, hfr, hlo⟩ := cx
  obtain rfl : len = 1 := by simpa [jokI] using hi
  simp only [jstep, jo2] at hs
  split at hs
  · obtain ⟨rfl, rfl, rfl, rfl⟩ := jnx_eq hs
    intro ls H locs hn hl hW hS
    exact lv_imul hx hb hd (kk ls H locs hn hl hW hS)
  · cases hs
theorem jw_iand (cx : jCx G X own cc nL ini p R s m args meth c) (hd : decode cc pc = .ok (.iand, len)) (hi : jokI S own ini ret (pc, .iand, len, (a, b, k, w), (iv, lv, sw)) = true) (hs : jstep X (pc, .iand, len, (a, b, k, w), (iv, lv, sw)) pl st σ = some (.inl (pc', pl', st', σ')))
    (kk : jWc G nL n0 p l e R s m args below meth c Q pc' pl' st' σ') : jWc G nL n0 p l e R s m args below meth c Q pc pl st σ := by
  obtain ⟨hx, hb, hml, hown, hts, hK, hin, hfr, hlo⟩ := cx
  obtain rfl : len = 1 := by simpa [jokI] using hi
  simp only [jstep, jo2] at hs
  split at hs
  · obtain ⟨rfl, rfl, rfl, rfl⟩ := jnx_eq hs
    intro ls H locs hn hl hW hS
    exact lv_iand hx hb hd (kk ls H locs hn hl hW hS)
  · cases hs
theorem jw_ior (cx : jCx G X own cc nL ini p R s m args meth c) (hd : decode cc pc = .ok (.ior, len)) (hi : jokI S own ini ret (pc, .ior, len, (a, b, k, w), (iv, lv, sw)) = true) (hs : jstep X (pc, .ior, len, (a, b, k, w), (iv, lv, sw)) pl st σ = some (.inl (pc', pl', st', σ')))
    (kk : jWc G nL n0 p l e R s m args below meth c Q pc' pl' st' σ') : jWc G nL n0 p l e R s m args below meth c Q pc pl st σ := by
  obtain ⟨hx, hb, hml, hown, hts, hK, hin, hfr, hlo⟩ := cx
  obtain rfl : len = 1 := by simpa [jokI] using hi
  simp only [jstep, jo2] at hs
  split at hs
  · obtain ⟨rfl, rfl, rfl, rfl⟩ := jnx_eq hs
    intro ls H locs hn hl hW hS
    exact lv_ior hx hb hd (kk ls H locs hn hl hW hS)
  · cases hs
theorem jw_ixor (cx : jCx G X own cc nL ini p R s m args meth c) (hd : decode cc pc = .ok (.ixor, len)) (hi : jokI S own ini ret (pc, .ixor, len, (a, b, k, w), (iv, lv, sw)) = true) (hs : jstep X (pc, .ixor, len, (a, b, k, w), (iv, lv, sw)) pl st σ = some (.inl (pc', pl', st', σ')))
    (kk : jWc G nL n0 p l e R s m args below meth c Q pc' pl' st' σ') : jWc G nL n0 p l e R s m args below meth c Q pc pl st σ := by
  obtain ⟨hx, hb, hml, hown, hts, hK, hin, hfr, hlo⟩ := cx
  obtain rfl : len = 1 := by simpa [jokI] using hi
  simp only [jstep, jo2] at hs
  split at hs
  · obtain ⟨rfl, rfl, rfl, rfl⟩ := jnx_eq hs
    intro ls H locs hn hl hW hS
    exact lv_ixor hx hb hd (kk ls H locs hn hl hW hS)
  · cases hs
theorem jw_ishl (cx : jCx G X own cc nL ini p R s m args meth c) (hd : decode cc pc = .ok (.ishl, len)) (hi : jokI S own ini ret (pc, .ishl, len, (a, b, k, w), (iv, lv, sw)) = true) (hs : jstep X (pc, .ishl, len, (a, b, k, w), (iv, lv, sw)) pl st σ = some (.inl (pc', pl', st', σ')))
    (kk : jWc G nL n0 p l e R s m args below meth c Q pc' pl' st' σ') : jWc G nL n0 p l e R s m args below meth c Q pc pl st σ := by
  obtain ⟨hx, hb, hml, hown, hts, hK, hin, hfr, hlo⟩ := cx
  obtain rfl : len = 1 := by simpa [jokI] using hi
  simp only [jstep, jo2] at hs
  split at hs
  · obtain ⟨rfl, rfl, rfl, rfl⟩ := jnx_eq hs
    intro ls H locs hn hl hW hS
    exact lv_ishl hx hb hd (kk ls H locs hn hl hW hS)
  · cases hs
theorem jw_ishr (cx : jCx G X own cc nL ini p R s m args meth c) (hd : decode cc pc = .ok (.ishr, len)) (hi : jokI S own ini ret (pc, .ishr, len, (a, b, k, w), (iv, lv, sw)) = true) (hs : jstep X (pc, .ishr, len, (a, b, k, w), (iv, lv, sw)) pl st σ = some (.inl (pc', pl', st', σ')))
    (kk : jWc G nL n0 p l e R s m args below meth c Q pc' pl' st' σ') : jWc G nL n0 p l e R s m args below meth c Q pc pl st σ := by
  obtain ⟨hx, hb, hml, hown, hts, hK, hin, hfr, hlo⟩ := cx
  obtain rfl : len = 1 := by simpa [jokI] using hi
  simp only [jstep, jo2] at hs
  split at hs
  · obtain ⟨rfl, rfl, rfl, rfl⟩ := jnx_eq hs
    intro ls H locs hn hl hW hS
    exact lv_ishr hx hb hd (kk ls H locs hn hl hW hS)
  · cases hs
theorem jw_ladd (cx : jCx G X own cc nL ini p R s m args meth c) (hd : decode cc pc = .ok (.ladd, len)) (hi : jokI S own ini ret (pc, .ladd, len, (a, b, k, w), (iv, lv, sw)) = true) (hs : jstep X (pc, .ladd, len, (a, b, k, w), (iv, lv, sw)) pl st σ = some (.inl (pc', pl', st', σ')))
    (kk : jWc G nL n0 p l e R s m args below meth c Q pc' pl' st' σ') : jWc G nL n0 p l e R s m args below meth c Q pc pl st σ := by
  obtain ⟨hx, hb, hml, hown, hts, hK, hin, hfr, hlo⟩ := cx
  obtain rfl : len = 1 := by simpa [jokI] using hi
  simp only [jstep, jL2] at hs
  split at hs
  · obtain ⟨rfl, rfl, rfl, rfl⟩ := jnx_eq hs
    intro ls H locs hn hl hW hS
    exact lv_ladd hx hb hd (kk ls H locs hn hl hW hS)
  · cases hs
theorem jw_lsub (cx : jCx G X own cc nL ini p R s m args meth c) (hd : decode cc pc = .ok (.lsub, len)) (hi : jokI S own ini ret (pc, .lsub, len, (a, b, k, w), (iv, lv, sw)) = true) (hs : jstep X (pc, .lsub, len, (a, b, k, w), (iv, lv, sw)) pl st σ = some (.inl (pc', pl', st', σ')))
    (kk : jWc G nL n0 p l e R s m args below meth c Q pc' pl' st' σ') : jWc G nL n0 p l e R s m args below meth c Q pc pl st σ := by
  obtain ⟨hx, hb, hml, hown, hts, hK, hin, hfr, hlo⟩ := cx
  obtain rfl : len = 1 := by simpa [jokI] using hi
  simp only [jstep, jL2] at hs
  split at hs
  · obtain ⟨rfl, rfl, rfl, rfl⟩ := jnx_eq hs
    intro ls H locs hn hl hW hS
    exact lv_lsub hx hb hd (kk ls H locs hn hl hW hS)
  · cases hs
theorem jw_lmul (cx : jCx G X own cc nL ini p R s m args meth c) (hd : decode cc pc = .ok (.lmul, len)) (hi : jokI S own ini ret (pc, .lmul, len, (a, b, k, w), (iv, lv, sw)) = true) (hs : jstep X (pc, .lmul, len, (a, b, k, w), (iv, lv, sw)) pl st σ = some (.inl (pc', pl', st', σ')))
    (kk : jWc G nL n0 p l e R s m args below meth c Q pc' pl' st' σ') : jWc G nL n0 p l e R s m args below meth c Q pc pl st σ := by
  obtain ⟨hx, hb, hml, hown, hts, hK, hin, hfr, hlo⟩ := cx
  obtain rfl : len = 1 := by simpa [jokI] using hi
  simp only [jstep, jL2] at hs
  split at hs
  · obtain ⟨rfl, rfl, rfl, rfl⟩ := jnx_eq hs
    intro ls H locs hn hl hW hS
    exact lv_lmul hx hb hd (kk ls H locs hn hl hW hS)
  · cases hs
theorem jw_land (cx : jCx G X own cc nL ini p R s m args meth c) (hd : decode cc pc = .ok (.land, len)) (hi : jokI S own ini ret (pc, .land, len, (a, b, k, w), (iv, lv, sw)) = true) (hs : jstep X (pc, .land, len, (a, b, k, w), (iv, lv, sw)) pl st σ = some (.inl (pc', pl', st', σ')))
    (kk : jWc G nL n0 p l e R s m args below meth c Q pc' pl' st' σ') : jWc G nL n0 p l e R s m args below meth c Q pc pl st σ := by
  obtain ⟨hx, hb, hml, hown, hts, hK, hin, hfr, hlo⟩ := cx
  obtain rfl : len = 1 := by simpa [jokI] using hi
  simp only [jstep, jL2] at hs
  split at hs
  · obtain ⟨rfl, rfl, rfl, rfl⟩ := jnx_eq hs
    intro ls H locs hn hl hW hS
    exact lv_land hx hb hd (kk ls H locs hn hl hW hS)
  · cases hs
theorem jw_lxor (cx : jCx G X own cc nL ini p R s m args meth c) (hd : decode cc pc = .ok (.lxor, len)) (hi : jokI S own ini ret (pc, .lxor, len, (a, b, k, w), (iv, lv, sw)) = true) (hs : jstep X (pc, .lxor, len, (a, b, k, w), (iv, lv, sw)) pl st σ = some (.inl (pc', pl', st', σ')))
    (kk : jWc G nL n0 p l e R s m args below meth c Q pc' pl' st' σ') : jWc G nL n0 p l e R s m args below meth c Q pc pl st σ := by
  obtain ⟨hx, hb, hml, hown, hts, hK, hin, hfr, hlo⟩ := cx
  obtain rfl : len = 1 := by simpa [jokI] using hi
  simp only [jstep, jL2] at hs
  split at hs
  · obtain ⟨rfl, rfl, rfl, rfl⟩ := jnx_eq hs
    intro ls H locs hn hl hW hS
    exact lv_lxor hx hb hd (kk ls H locs hn hl hW hS)
  · cases hs
theorem jw_iushr (cx : jCx G X own cc nL ini p R s m args meth c) (hd : decode cc pc = .ok (.iushr, len)) (hi : jokI S own ini ret (pc, .iushr, len, (a, b, k, w), (iv, lv, sw)) = true) (hs : jstep X (pc, .iushr, len, (a, b, k, w), (iv, lv, sw)) pl st σ = some (.inl (pc', pl', st', σ')))
    (kk : jWc G nL n0 p l e R s m args below meth c Q pc' pl' st' σ') : jWc G nL n0 p l e R s m args below meth c Q pc pl st σ := by
  obtain ⟨hx, hb, hml, hown, hts, hK, hin, hfr, hlo⟩ := cx
  obtain rfl : len = 1 := by simpa [jokI] using hi
  simp only [jstep, jo2] at hs
  split at hs
  · obtain ⟨rfl, rfl, rfl, rfl⟩ := jnx_eq hs
    intro ls H locs hn hl hW hS
    exact lv_iushr hx hb hd rfl (kk ls H locs hn hl hW hS)
  · cases hs
theorem jw_idiv (cx : jCx G X own cc nL ini p R s m args meth c) (hd : decode cc pc = .ok (.idiv, len)) (hi : jokI S own ini ret (pc, .idiv, len, (a, b, k, w), (iv, lv, sw)) = true) (hs : jstep X (pc, .idiv, len, (a, b, k, w), (iv, lv, sw)) pl st σ = some (.inl (pc', pl', st', σ')))
    (kk : jWc G nL n0 p l e R s m args below meth c Q pc' pl' st' σ') : jWc G nL n0 p l e R s m args below meth c Q pc pl st σ := by
  obtain ⟨hx, hb, hml, hown, hts, hK, hin, hfr, hlo⟩ := cx
  obtain rfl : len = 1 := by simpa [jokI] using hi
  simp only [jstep, jo2d] at hs
  split at hs
  · split at hs
    · cases hs
    · next hne =>
      obtain ⟨rfl, rfl, rfl, rfl⟩ := jnx_eq hs
      intro ls H locs hn hl hW hS
      exact lv_idiv hx hb hd hne (kk ls H locs hn hl hW hS)
  · cases hs
theorem jw_irem (cx : jCx G X own cc nL ini p R s m args meth c) (hd : decode cc pc = .ok (.irem, len)) (hi : jokI S own ini ret (pc, .irem, len, (a, b, k, w), (iv, lv, sw)) = true) (hs : jstep X (pc, .irem, len, (a, b, k, w), (iv, lv, sw)) pl st σ = some (.inl (pc', pl', st', σ')))
    (kk : jWc G nL n0 p l e R s m args below meth c Q pc' pl' st' σ') : jWc G nL n0 p l e R s m args below meth c Q pc pl st σ := by
  obtain ⟨hx, hb, hml, hown, hts, hK, hin, hfr, hlo⟩ := cx
  obtain rfl : len = 1 := by simpa [jokI] using hi
  simp only [jstep, jo2d] at hs
  split at hs
  · split at hs
    · cases hs
    · next hne =>
      obtain ⟨rfl, rfl, rfl, rfl⟩ := jnx_eq hs
      intro ls H locs hn hl hW hS
      exact lv_irem hx hb hd hne (kk ls H locs hn hl hW hS)
  · cases hs
theorem jw_ldiv (cx : jCx G X own cc nL ini p R s m args meth c) (hd : decode cc pc = .ok (.ldiv, len)) (hi : jokI S own ini ret (pc, .ldiv, len, (a, b, k, w), (iv, lv, sw)) = true) (hs : jstep X (pc, .ldiv, len, (a, b, k, w), (iv, lv, sw)) pl st σ = some (.inl (pc', pl', st', σ')))
    (kk : jWc G nL n0 p l e R s m args below meth c Q pc' pl' st' σ') : jWc G nL n0 p l e R s m args below meth c Q pc pl st σ := by
  obtain ⟨hx, hb, hml, hown, hts, hK, hin, hfr, hlo⟩ := cx
  obtain rfl : len = 1 := by simpa [jokI] using hi
  simp only [jstep, jL2d] at hs
  split at hs
  · split at hs
    · cases hs
    · next hne =>
      obtain ⟨rfl, rfl, rfl, rfl⟩ := jnx_eq hs
      intro ls H locs hn hl hW hS
      exact lv_ldiv hx hb hd hne (kk ls H locs hn hl hW hS)
  · cases hs
theorem jw_lrem (cx : jCx G X own cc nL ini p R s m args meth c) (hd : decode cc pc = .ok (.lrem, len)) (hi : jokI S own ini ret (pc, .lrem, len, (a, b, k, w), (iv, lv, sw)) = true) (hs : jstep X (pc, .lrem, len, (a, b, k, w), (iv, lv, sw)) pl st σ = some (.inl (pc', pl', st', σ')))
    (kk : jWc G nL n0 p l e R s m args below meth c Q pc' pl' st' σ') : jWc G nL n0 p l e R s m args below meth c Q pc pl st σ := by
  obtain ⟨hx, hb, hml, hown, hts, hK, hin, hfr, hlo⟩ := cx
  obtain rfl : len = 1 := by simpa [jokI] using hi
  simp only [jstep, jL2d] at hs
  split at hs
  · split at hs
    · cases hs
    · next hne =>
      obtain ⟨rfl, rfl, rfl, rfl⟩ := jnx_eq hs
      intro ls H locs hn hl hW hS
      exact lv_lrem hx hb hd hne (kk ls H locs hn hl hW hS)
  · cases hs
theorem jw_lcmp (cx : jCx G X own cc nL ini p R s m args meth c) (hd : decode cc pc = .ok (.lcmp, len)) (hi : jokI S own ini ret (pc, .lcmp, len, (a, b, k, w), (iv, lv, sw)) = true) (hs : jstep X (pc, .lcmp, len, (a, b, k, w), (iv, lv, sw)) pl st σ = some (.inl (pc', pl', st', σ')))
    (kk : jWc G nL n0 p l e R s m args below meth c Q pc' pl' st' σ') : jWc G nL n0 p l e R s m args below meth c Q pc pl st σ := by
  obtain ⟨hx, hb, hml, hown, hts, hK, hin, hfr, hlo⟩ := cx
  obtain rfl : len = 1 := by simpa [jokI] using hi
  simp only [jstep, jlc] at hs
  split at hs
  · obtain ⟨rfl, rfl, rfl, rfl⟩ := jnx_eq hs
    intro ls H locs hn hl hW hS
    exact W.lcmp hx hb hd (kk ls H locs hn hl hW hS)
  · cases hs
theorem jw_i2l (cx : jCx G X own cc nL ini p R s m args meth c) (hd : decode cc pc = .ok (.i2l, len)) (hi : jokI S own ini ret (pc, .i2l, len, (a, b, k, w), (iv, lv, sw)) = true) (hs : jstep X (pc, .i2l, len, (a, b, k, w), (iv, lv, sw)) pl st σ = some (.inl (pc', pl', st', σ')))
    (kk : jWc G nL n0 p l e R s m args below meth c Q pc' pl' st' σ') : jWc G nL n0 p l e R s m args below meth c Q pc pl st σ := by
  obtain ⟨hx, hb, hml, hown, hts, hK, hin, hfr, hlo⟩ := cx
  obtain rfl : len = 1 := by simpa [jokI] using hi
  simp only [jstep, jcv1] at hs
  split at hs
  · obtain ⟨rfl, rfl, rfl, rfl⟩ := jnx_eq hs
    intro ls H locs hn hl hW hS
    exact lv_i2l hx hb hd rfl (kk ls H locs hn hl hW hS)
  · cases hs
theorem jw_l2i (cx : jCx G X own cc nL ini p R s m args meth c) (hd : decode cc pc = .ok (.l2i, len)) (hi : jokI S own ini ret (pc, .l2i, len, (a, b, k, w), (iv, lv, sw)) = true) (hs : jstep X (pc, .l2i, len, (a, b, k, w), (iv, lv, sw)) pl st σ = some (.inl (pc', pl', st', σ')))
    (kk : jWc G nL n0 p l e R s m args below meth c Q pc' pl' st' σ') : jWc G nL n0 p l e R s m args below meth c Q pc pl st σ := by
  obtain ⟨hx, hb, hml, hown, hts, hK, hin, hfr, hlo⟩ := cx
  obtain rfl : len = 1 := by simpa [jokI] using hi
  simp only [jstep, jcv2] at hs
  split at hs
  · obtain ⟨rfl, rfl, rfl, rfl⟩ := jnx_eq hs
    intro ls H locs hn hl hW hS
    exact lv_l2i hx hb hd rfl (kk ls H locs hn hl hW hS)
  · cases hs
theorem jlt_ge {x y : Int32} : y ≤ x ↔ ¬ x < y := Int32.not_lt.symm
theorem jw_ifCond {q : Jvm.ClassFile.Cond} {off : Int} (cx : jCx G X own cc nL ini p R s m args meth c) (hd : decode cc pc = .ok (.ifCond q off, len)) (hi : jokI S own ini ret (pc, .ifCond q off, len, (a, b, k, w), (iv, lv, sw)) = true) (hs : jstep X (pc, .ifCond q off, len, (a, b, k, w), (iv, lv, sw)) pl st σ = some (.inl (pc', pl', st', σ')))
    (kk : jWc G nL n0 p l e R s m args below meth c Q pc' pl' st' σ') : jWc G nL n0 p l e R s m args below meth c Q pc pl st σ := by
  obtain ⟨hx, hb, hml, hown, hts, hK, hin, hfr, hlo⟩ := cx
  obtain ⟨rfl, ht⟩ : len = 3 ∧ (pc : Int) + off = (a : Int) := by simpa [jokI] using hi
  simp only [jstep, jif1] at hs
  split at hs
  · next x r =>
    obtain ⟨rfl, rfl, rfl, rfl⟩ := jgo_eq hs
    intro ls H locs hn hl hW hS
    have h0 := kk ls H locs hn hl hW hS
    cases q with
    | eq => exact lv_if_eq hx hb hd ht (fun h => by simpa [jbr, h] using h0) (fun h => by simpa [jbr, h] using h0)
    | ne => exact lv_if_ne hx hb hd ht (fun h => by simpa [jbr, h] using h0) (fun h => by simpa [jbr, h] using h0)
    | lt => exact lv_if_lt hx hb hd ht (fun h => by simpa [jbr, h] using h0) (fun h => by simpa [jbr, h] using h0)
    | ge => exact lv_if_ge hx hb hd ht (fun h => by simpa [jbr, jlt_ge.mp h] using h0) (fun h => by simpa [jbr, Decidable.not_not.mp (fun z => h (jlt_ge.mpr z))] using h0)
    | gt => exact lv_if_gt hx hb hd ht (fun h => by simpa [jbr, h] using h0) (fun h => by simpa [jbr, h] using h0)
    | le => exact lv_if_le hx hb hd ht (fun h => by simpa [jbr, jlt_ge.mp h] using h0) (fun h => by simpa [jbr, Decidable.not_not.mp (fun z => h (jlt_ge.mpr z))] using h0)
  · cases hs
theorem jw_if_icmp {q : Jvm.ClassFile.Cond} {off : Int} (cx : jCx G X own cc nL ini p R s m args meth c) (hd : decode cc pc = .ok (.if_icmp q off, len)) (hi : jokI S own ini ret (pc, .if_icmp q off, len, (a, b, k, w), (iv, lv, sw)) = true) (hs : jstep X (pc, .if_icmp q off, len, (a, b, k, w), (iv, lv, sw)) pl st σ = some (.inl (pc', pl', st', σ')))
    (kk : jWc G nL n0 p l e R s m args below meth c Q pc' pl' st' σ') : jWc G nL n0 p l e R s m args below meth c Q pc pl st σ := by
  obtain ⟨hx, hb, hml, hown, hts, hK, hin, hfr, hlo⟩ := cx
  obtain ⟨rfl, ht⟩ : len = 3 ∧ (pc : Int) + off = (a : Int) := by simpa [jokI] using hi
  simp only [jstep, jif2] at hs
  split at hs
  · next y x r =>
    obtain ⟨rfl, rfl, rfl, rfl⟩ := jgo_eq hs
    intro ls H locs hn hl hW hS
    have h0 := kk ls H locs hn hl hW hS
    cases q with
    | eq => exact lv_icmp_eq hx hb hd ht (fun h => by simpa [jbr, h] using h0) (fun h => by simpa [jbr, h] using h0)
    | ne => exact lv_icmp_ne hx hb hd ht (fun h => by simpa [jbr, h] using h0) (fun h => by simpa [jbr, h] using h0)
    | lt => exact lv_icmp_lt hx hb hd ht (fun h => by simpa [jbr, h] using h0) (fun h => by simpa [jbr, h] using h0)
    | ge => exact lv_icmp_ge hx hb hd ht (fun h => by simpa [jbr, jlt_ge.mp h] using h0) (fun h => by simpa [jbr, Decidable.not_not.mp (fun z => h (jlt_ge.mpr z))] using h0)
    | gt => exact lv_icmp_gt hx hb hd ht (fun h => by simpa [jbr, h] using h0) (fun h => by simpa [jbr, h] using h0)
    | le => exact lv_icmp_le hx hb hd ht (fun h => by simpa [jbr, jlt_ge.mp h] using h0) (fun h => by simpa [jbr, Decidable.not_not.mp (fun z => h (jlt_ge.mpr z))] using h0)
  · cases hs
theorem jw_goto {off : Int} (cx : jCx G X own cc nL ini p R s m args meth c) (hd : decode cc pc = .ok (.goto off, len)) (hi : jokI S own ini ret (pc, .goto off, len, (a, b, k, w), (iv, lv, sw)) = true) (hs : jstep X (pc, .goto off, len, (a, b, k, w), (iv, lv, sw)) pl st σ = some (.inl (pc', pl', st', σ')))
    (kk : jWc G nL n0 p l e R s m args below meth c Q pc' pl' st' σ') : jWc G nL n0 p l e R s m args below meth c Q pc pl st σ := by
  obtain ⟨hx, hb, hml, hown, hts, hK, hin, hfr, hlo⟩ := cx
  obtain ⟨rfl, ht⟩ : len = 3 ∧ (pc : Int) + off = (a : Int) := by simpa [jokI] using hi
  simp only [jstep] at hs
  obtain ⟨rfl, rfl, rfl, rfl⟩ := jgo_eq hs
  intro ls H locs hn hl hW hS
  exact lv_goto hx hb hd ht (kk ls H locs hn hl hW hS)
theorem jtoI {x y : Int32} : x = y ↔ x.toInt = y.toInt := ⟨fun h => by rw [h], fun h => Int32.toInt_inj.mp h⟩
theorem jswt_ok {d : Nat} (x : Int32) : ∀ (os : List Int) (sw : List (Int32 × Nat)) (lo : Int), jswt pc lo os sw = true → (x.toInt < lo ∨ lo + os.length ≤ x.toInt → jswl sw d x = d) ∧ (lo ≤ x.toInt → x.toInt < lo + os.length → ∃ o, os[(x.toInt - lo).toNat]? = some o ∧ (pc : Int) + o = ((jswl sw d x : Nat) : Int)) := by
  intro os
  induction os with
  | nil =>
    intro sw lo h
    cases sw with
    | nil => exact ⟨fun _ => rfl, fun h1 h2 => by simp at h2; omega⟩
    | cons y r => simp [jswt] at h
  | cons o os ih =>
    intro sw lo h
    cases sw with
    | nil => simp [jswt] at h
    | cons y r =>
      obtain ⟨kq, t⟩ := y
      simp only [jswt, Bool.and_eq_true, decide_eq_true_eq] at h
      obtain ⟨h1, h2, h3⟩ := h
      obtain ⟨i1, i2⟩ := ih r (lo + 1) h3
      have hlen : ((o :: os).length : Int) = (os.length : Int) + 1 := by simp
      by_cases hxe : x = kq
      · have hxt : x.toInt = lo := by rw [hxe, h2]
        refine ⟨fun q => by omega, fun _ _ => ⟨o, by simp [hxt], ?_⟩⟩
        simp [jswl, hxe, h1]
      · have hne : x.toInt ≠ lo := fun z => hxe (jtoI.mpr (by rw [z, h2]))
        have hsw : jswl ((kq, t) :: r) d x = jswl r d x := by simp [jswl, hxe]
        rw [hsw]
        refine ⟨fun q => i1 (by omega), fun q1 q2 => ?_⟩
        obtain ⟨o', g1, g2⟩ := i2 (by omega) (by omega)
        refine ⟨o', ?_, g2⟩
        rw [show (x.toInt - lo).toNat = (x.toInt - (lo + 1)).toNat + 1 by omega, List.getElem?_cons_succ]
        exact g1
theorem jw_tableswitch {d lo hi2 : Int} {offs : Array Int} (cx : jCx G X own cc nL ini p R s m args meth c) (hd : decode cc pc = .ok (.tableswitch d lo hi2 offs, len)) (hi : jokI S own ini ret (pc, .tableswitch d lo hi2 offs, len, (a, b, k, w), (iv, lv, sw)) = true) (hs : jstep X (pc, .tableswitch d lo hi2 offs, len, (a, b, k, w), (iv, lv, sw)) pl st σ = some (.inl (pc', pl', st', σ')))
    (kk : jWc G nL n0 p l e R s m args below meth c Q pc' pl' st' σ') : jWc G nL n0 p l e R s m args below meth c Q pc pl st σ := by
  obtain ⟨hx, hb, hml, hown, hts, hK, hin, hfr, hlo⟩ := cx
  obtain ⟨ht, hz, hr, hw⟩ : (pc : Int) + d = (a : Int) ∧ lo + offs.size = hi2 + 1 ∧ (-2147483648 ≤ lo ∧ hi2 < 2147483648) ∧ jswt pc lo offs.toList sw = true := by
    simpa [jokI] using hi
  simp only [jstep, jsw] at hs
  split at hs
  · next x r =>
    obtain ⟨rfl, rfl, rfl, rfl⟩ := jgo_eq hs
    intro ls H locs hn hl hW hS
    have h0 := kk ls H locs hn hl hW hS
    obtain ⟨i1, i2⟩ := jswt_ok (pc := pc) (d := a) x offs.toList sw lo hw
    have hl2 : (offs.toList.length : Int) = (offs.size : Int) := by simp
    by_cases ho : x.toInt < lo ∨ hi2 < x.toInt
    · rw [i1 (by omega)] at h0
      exact lv_tableOut hx hb hd ho ht h0
    · obtain ⟨o, g1, g2⟩ := i2 (by omega) (by omega)
      exact lv_tableIn hx hb hd (by omega) (by omega) (by rw [← Array.getElem?_toList]; exact g1) g2 h0
  · cases hs
theorem jswo_ok {d : Nat} {dflt : Int} (x : Int32) (hd : (pc : Int) + dflt = (d : Int)) : ∀ (ps : List (Int × Int)) (sw : List (Int32 × Nat)), jswo pc ps sw = true → (pc : Int) + Op.lookupswitch.offset ps dflt x.toInt = ((jswl sw d x : Nat) : Int) := by
  intro ps
  induction ps with
  | nil =>
    intro sw h
    cases sw with
    | nil => simpa [jswl, Op.lookupswitch.offset] using hd
    | cons y r => simp [jswo] at h
  | cons q ps ih =>
    intro sw h
    obtain ⟨z, o⟩ := q
    cases sw with
    | nil => simp [jswo] at h
    | cons y r =>
      obtain ⟨kq, t⟩ := y
      simp only [jswo, Bool.and_eq_true, decide_eq_true_eq] at h
      obtain ⟨h1, h2, h3⟩ := h
      by_cases hxe : x = kq
      · have : jswl ((kq, t) :: r) d x = t := by simp [jswl, hxe]
        rw [this, ← h1]
        have hxt : x.toInt = z := by rw [hxe, h2]
        simp [Op.lookupswitch.offset, hxt]
      · have : jswl ((kq, t) :: r) d x = jswl r d x := by simp [jswl, hxe]
        rw [this, lv_osw hxe h2]
        exact ih r h3
theorem jw_lookupswitch {d : Int} {ps : Array (Int × Int)} (cx : jCx G X own cc nL ini p R s m args meth c) (hd : decode cc pc = .ok (.lookupswitch d ps, len)) (hi : jokI S own ini ret (pc, .lookupswitch d ps, len, (a, b, k, w), (iv, lv, sw)) = true) (hs : jstep X (pc, .lookupswitch d ps, len, (a, b, k, w), (iv, lv, sw)) pl st σ = some (.inl (pc', pl', st', σ')))
    (kk : jWc G nL n0 p l e R s m args below meth c Q pc' pl' st' σ') : jWc G nL n0 p l e R s m args below meth c Q pc pl st σ := by
  obtain ⟨hx, hb, hml, hown, hts, hK, hin, hfr, hlo⟩ := cx
  simp only [jokI, Bool.and_eq_true, decide_eq_true_eq] at hi
  obtain ⟨ht, hz, hw⟩ := hi
  simp only [jstep, jsw] at hs
  split at hs
  · next x r =>
    obtain ⟨rfl, rfl, rfl, rfl⟩ := jgo_eq hs
    intro ls H locs hn hl hW hS
    have h0 := kk ls H locs hn hl hW hS
    exact lv_lookup hx hb hd hz rfl (jswo_ok (pc := pc) (d := a) x ht ps.toList sw hw) h0
  · cases hs
theorem jw_dup (cx : jCx G X own cc nL ini p R s m args meth c) (hd : decode cc pc = .ok (.dup, len)) (hi : jokI S own ini ret (pc, .dup, len, (a, b, k, w), (iv, lv, sw)) = true) (hs : jstep X (pc, .dup, len, (a, b, k, w), (iv, lv, sw)) pl st σ = some (.inl (pc', pl', st', σ')))
    (kk : jWc G nL n0 p l e R s m args below meth c Q pc' pl' st' σ') : jWc G nL n0 p l e R s m args below meth c Q pc pl st σ := by
  obtain ⟨hx, hb, hml, hown, hts, hK, hin, hfr, hlo⟩ := cx
  obtain rfl : len = 1 := by simpa [jokI] using hi
  simp only [jstep, jdup] at hs
  split at hs
  · obtain ⟨rfl, rfl, rfl, rfl⟩ := jnx_eq hs
    intro ls H locs hn hl hW hS
    exact lv_dup hx hb hd (by rw [jcv_cat]; rfl) (kk ls H locs hn hl hW hS)
  · obtain ⟨rfl, rfl, rfl, rfl⟩ := jnx_eq hs
    intro ls H locs hn hl hW hS
    exact lv_dup hx hb hd (by rw [jcv_cat]; rfl) (kk ls H locs hn hl hW hS)
  · cases hs
theorem jw_dup2 (cx : jCx G X own cc nL ini p R s m args meth c) (hd : decode cc pc = .ok (.dup2, len)) (hi : jokI S own ini ret (pc, .dup2, len, (a, b, k, w), (iv, lv, sw)) = true) (hs : jstep X (pc, .dup2, len, (a, b, k, w), (iv, lv, sw)) pl st σ = some (.inl (pc', pl', st', σ')))
    (kk : jWc G nL n0 p l e R s m args below meth c Q pc' pl' st' σ') : jWc G nL n0 p l e R s m args below meth c Q pc pl st σ := by
  obtain ⟨hx, hb, hml, hown, hts, hK, hin, hfr, hlo⟩ := cx
  obtain rfl : len = 1 := by simpa [jokI] using hi
  simp only [jstep, jdup2] at hs
  split at hs
  · obtain ⟨rfl, rfl, rfl, rfl⟩ := jnx_eq hs
    intro ls H locs hn hl hW hS
    exact lv_dup2_11 hx hb hd (by rw [jcv_cat]; rfl) (by rw [jcv_cat]; rfl) (kk ls H locs hn hl hW hS)
  · cases hs
theorem jw_pop (cx : jCx G X own cc nL ini p R s m args meth c) (hd : decode cc pc = .ok (.pop, len)) (hi : jokI S own ini ret (pc, .pop, len, (a, b, k, w), (iv, lv, sw)) = true) (hs : jstep X (pc, .pop, len, (a, b, k, w), (iv, lv, sw)) pl st σ = some (.inl (pc', pl', st', σ')))
    (kk : jWc G nL n0 p l e R s m args below meth c Q pc' pl' st' σ') : jWc G nL n0 p l e R s m args below meth c Q pc pl st σ := by
  obtain ⟨hx, hb, hml, hown, hts, hK, hin, hfr, hlo⟩ := cx
  obtain rfl : len = 1 := by simpa [jokI] using hi
  simp only [jstep, jpop] at hs
  split at hs
  · obtain ⟨rfl, rfl, rfl, rfl⟩ := jnx_eq hs
    intro ls H locs hn hl hW hS
    exact lv_pop hx hb hd (by rw [jcv_cat]; rfl) (kk ls H locs hn hl hW hS)
  · obtain ⟨rfl, rfl, rfl, rfl⟩ := jnx_eq hs
    intro ls H locs hn hl hW hS
    exact lv_pop hx hb hd (by rw [jcv_cat]; rfl) (kk ls H locs hn hl hW hS)
  · cases hs
end JS
