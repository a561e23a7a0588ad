/-! Steps that read and write the heap -/
theorem jshL_ok : jshL.all (fun x => decide (x.1 ≤ 12 ∨ (20 ≤ x.1 ∧ x.1 ≤ 23)) && (decide (x.2 ≤ 4000) && (!(decide (1 ≤ x.1 ∧ x.1 ≤ 12)) || decide (x.2 = jN (x.1 - 1))))) = true := by decide +kernel
theorem jsh_ok (o : Nat) : ((jsh o).1 ≤ 12 ∨ (20 ≤ (jsh o).1 ∧ (jsh o).1 ≤ 23)) ∧ (jsh o).2 ≤ 4000 ∧ (1 ≤ (jsh o).1 → (jsh o).1 ≤ 12 → (jsh o).2 = jN ((jsh o).1 - 1)) := by
  unfold jsh
  rw [List.getD_eq_getElem?_getD]
  cases h : jshL[o]? with
  | none => simp
  | some x =>
    have := List.all_eq_true.mp jshL_ok x (List.mem_of_getElem? h)
    simp only [Bool.and_eq_true, Bool.or_eq_true, decide_eq_true_eq, Bool.not_eq_true', decide_eq_false_iff_not] at this
    obtain ⟨h1, h2, h3⟩ := this
    refine ⟨h1, h2, fun q1 q2 => ?_⟩
    rcases h3 with h3 | h3
    · exact absurd ⟨q1, q2⟩ h3
    · exact h3
theorem jcl_in {n o a : Nat} (h : jcl n o = a) (ha : a ≠ 0) (h13 : a ≠ 13) (h24 : a ≠ 24) (h25 : a ≠ 25) (hn : n < 1000) : o ≠ 0 ∧ o ≤ n ∧ (jsh o).1 = a := jcl_obj h ha hn h13 h24 h25
theorem jcl_word {n o : Nat} (h : jcl n o = 13) : 1000 ≤ o ∧ o < 1031 := by
  unfold jcl at h
  have := (jsh_ok o).1
  split at h
  · omega
  · split at h
    · omega
    · split at h
      · omega
      · split at h
        · omega
        · split at h <;> omega
theorem jcl_24 {n o : Nat} (h : jcl n o = 24) : o = 1031 := by
  unfold jcl at h
  have := (jsh_ok o).1
  split at h
  · omega
  · split at h
    · omega
    · split at h
      · omega
      · split at h
        · omega
        · split at h <;> omega
theorem jcl_25 {n o : Nat} (h : jcl n o = 25) : o = 1032 := by
  unfold jcl at h
  have := (jsh_ok o).1
  split at h
  · omega
  · split at h
    · omega
    · split at h
      · omega
      · split at h
        · omega
        · split at h <;> omega
theorem jin_vp {i : Int32} {n : Nat} (h : jin i n) : vp_in i n := by
  rintro (q | q)
  · exact h.1 q
  · exact absurd h.2 (by omega)
theorem jcel_obj {G : jG} {σ : jS} {o a : Nat} (h : (jsh o).1 = a) (ha : a ≤ 12) : jcel G σ o = .inr (a - 1, jfs G σ o (a - 1)) := by
  unfold jcel
  rw [h, if_neg (by omega), if_neg (by omega), if_neg (by omega), if_neg (by omega)]
theorem jcel_20 {G : jG} {σ : jS} {o : Nat} (h : (jsh o).1 = 20) : jcel G σ o = .inl (G.2.1 20, (jsh o).2, .inl (σ.2.2.1 o)) := by
  unfold jcel
  rw [if_pos h]
theorem jcel_21 {G : jG} {σ : jS} {o : Nat} (h : (jsh o).1 = 21) : jcel G σ o = .inl (G.2.1 21, (jsh o).2, .inr (.inl (σ.2.2.2 o))) := by
  unfold jcel
  rw [if_neg (by omega), if_pos h]
theorem jcel_22 {G : jG} {σ : jS} {o : Nat} (h : (jsh o).1 = 22) : jcel G σ o = .inl (G.2.1 22, (jsh o).2, .inl (σ.2.2.1 o)) := by
  unfold jcel
  rw [if_neg (by omega), if_neg (by omega), if_pos h]
theorem jcel_23 {G : jG} {σ : jS} {o : Nat} (h : (jsh o).1 = 23) : jcel G σ o = .inl (G.2.1 23, (jsh o).2, .inr (.inr (.inr (.inr (fun k => jro G (σ.2.1 o k)))))) := by
  unfold jcel
  rw [if_neg (by omega), if_neg (by omega), if_neg (by omega), if_pos h]
theorem jcv_ref {G : jG} {o : Nat} (h : o ≠ 0) : jcv G (.ref o) = .ref (jad G o) := by simp [jcv, h]
theorem jkd_cases {c b : Nat} (hc : c < 12) (hb : b < jN c) : (jkd c b = 0 ∧ jty c b = .int) ∨ (jkd c b = 1 ∧ jty c b = .long) ∨ (jkd c b = 4 ∧ jty c b = .boolean) ∨ (jkd c b = 2 ∧ ((∃ n, jty c b = .object n) ∨ ∃ t, jty c b = .array t)) := by
  have h := jtyk hc hb
  generalize jkd c b = k at h
  generalize jty c b = t at h
  unfold jtk at h
  split at h
  · exact Or.inl ⟨rfl, rfl⟩
  · exact Or.inr (Or.inl ⟨rfl, rfl⟩)
  · exact Or.inr (Or.inr (Or.inl ⟨rfl, rfl⟩))
  · exact Or.inr (Or.inr (Or.inr ⟨rfl, Or.inl ⟨_, rfl⟩⟩))
  · exact Or.inr (Or.inr (Or.inr ⟨rfl, Or.inr ⟨_, rfl⟩⟩))
  · cases h
theorem jfs_at {G : jG} {σ : jS} {o c b : Nat} (hb : b < jN c) : (jfs G σ o c)[b]? = some (jval G σ o c b) := by
  simp [jfs, hb]
theorem jval_fv {G : jG} {σ : jS} {o c b : Nat} (hc : c < 12) (hb : b < jN c) : jcv G (jfv σ (jkd c b) o b) = jval G σ o c b := by
  rcases jkd_cases hc hb with ⟨h, -⟩ | ⟨h, -⟩ | ⟨h, -⟩ | ⟨h, -⟩ <;> simp [jfv, jval, h, jcv]
theorem jfs_set {G : jG} {σ τ : jS} {o c b : Nat} {v : Value} (h : ∀ j, j < jN c → jval G τ o c j = if j = b then v else jval G σ o c j) : jfs G τ o c = (jfs G σ o c).set b v := by
  apply List.ext_getElem?
  intro j
  rw [List.getElem?_set]
  by_cases hj : j < jN c
  · rw [jfs_at hj, jfs_at hj, h j hj]
    by_cases hb : j = b
    · subst hb
      simp [jfs, hj]
    · rw [if_neg hb, if_neg (Ne.symm hb)]
  · have e1 : (jfs G τ o c)[j]? = none := List.getElem?_eq_none (by simp [jfs]; omega)
    have e2 : (jfs G σ o c)[j]? = none := List.getElem?_eq_none (by simp [jfs]; omega)
    rw [e1, e2]
    split
    · next q => subst q; rw [if_neg (by simp [jfs]; omega)]
    · rfl
section JT
variable {p : Program} {l : Launch} {e : Env} {R : Room} {s : State} {m : MethodId} {args : Array Value} {below : List Frame} {meth : Method} {c : Code} {Q : State → Prop}
variable {G : jG} {X : jX} {own : String} {cc : ByteArray} {nL n0 : Nat} {ini : Bool} {S : List jSg} {ret : Option FieldType}
variable {pc : Nat} {pl pl' : jPL} {st st' : List Value} {σ σ' : jS} {pc' len a b k w : Nat} {iv : Int32} {lv : Int64} {sw : List (Int32 × Nat)} {ins : Instr}
theorem jw_getfield {z : Nat} (cx : jCx G X own cc nL ini p R s m args meth c) (hd : decode cc pc = .ok (.getfield z, len)) (hi : jokI S own ini ret (pc, .getfield z, len, (a, b, k, w), (iv, lv, sw)) = true) (hs : jstep X (pc, .getfield z, len, (a, b, k, w), (iv, lv, sw)) pl st σ = some (.inl (pc', pl', st', σ')))
    (kk : jWc G nL n0 p l e R s m args below meth c Q pc' pl' st' σ') : jWc G nL n0 p l e R s m args below meth c Q pc pl st σ := by
  obtain ⟨hx, hb, hml, hown, hts, hK, hin, hfr, hlo⟩ := cx
  simp only [jokI, Bool.and_eq_true, Bool.or_eq_true, decide_eq_true_eq, beq_iff_eq] at hi
  obtain ⟨rfl, hi⟩ := hi
  simp only [jstep, jget] at hs
  split at hs
  · next o r =>
    split at hs
    · next hcl =>
      obtain ⟨rfl, rfl, rfl, rfl⟩ := jnx_eq hs
      intro ls H locs hn hl hW hS
      have h0 := kk ls H locs hn hl hW hS
      rcases hi with hi | ⟨⟨rfl, rfl⟩, hi⟩
      · simp only [jokF, Bool.and_eq_true, decide_eq_true_eq] at hi
        obtain ⟨⟨a1, a2, a3, rfl⟩, a4⟩ := hi
        obtain ⟨o0, o1, o2⟩ := jcl_in hcl (by omega) (by omega) (by omega) (by omega) hW.2.1
        have hc : a - 1 < 12 := by omega
        have he := jwl_at G o0 o1 hW.2.1
        rw [jcel_obj o2 a2] at he
        simp only [List.map_cons, jval_fv hc a3] at h0
        simp only [List.map_cons, jcv_ref o0]
        exact va_get hx hb hts (jws hc) hown hK.1 hW.2.2 (o - 1) he (jcls_at hc) b a3 (hts _ (jW3_in a4)) (fun _ h => h) (jfs_at a3) hd h0
      · obtain ⟨o1, o2⟩ := jcl_word hcl
        have hj : jad G o = G.2.2.2.1 (o - 1000) := by
          unfold jad
          rw [if_neg (by omega), if_pos o2]
        obtain ⟨-, w1, w2⟩ := hK.2.1 (o - 1000) (by omega)
        have ho0 : o ≠ (0 : Nat) := fun z => by rw [z] at o1; omega
        simp only [List.map_cons, jcv_ref ho0, hj]
        rcases hi with ⟨rfl, hi⟩ | ⟨rfl, hi⟩
        · obtain ⟨cf, kc, i, f, cell, f1, f2, f3, f4, f5, f6⟩ := w1
          refine W.getf hx hb hown (hts _ (jW3_in hi)) f1 f2 (by rw [hS.2.1 _ (Array.getElem?_eq_some_iff.mp f3).1 f6]; exact f3) f4 f5 rfl rfl hd ?_
          exact h0
        · obtain ⟨cf, kc, i, f, cell, f1, f2, f3, f4, f5, f6⟩ := w2
          refine W.getf hx hb hown (hts _ (jW3_in hi)) f1 f2 (by rw [hS.2.1 _ (Array.getElem?_eq_some_iff.mp f3).1 f6]; exact f3) f4 f5 rfl rfl hd ?_
          exact h0
    · cases hs
  · cases hs
/-- a store into a field, final or not -/
theorem jput_raw {z o : Nat} {v : Value} {H : Heap} {locs : List Loc} {ls : Array Slot} {cells slots : Nat} {rest : List Value} (cx : jCx G X own cc nL ini p R s m args meth c) (hd : decode cc pc = .ok (.putfield z, 3)) (a1 : 1 ≤ a) (a2 : a ≤ 12) (a3 : b < jN (a - 1))
    (a4 : jW3 w (.fieldLink own z (jF (a - 1) b).1 (jF (a - 1) b).2.1 (jF (a - 1) b).2.2.1) = true) (a5 : (jF (a - 1) b).2.2.2 = true → ini = true ∧ (jF (a - 1) b).1 = own) (o0 : o ≠ 0) (o1 : o ≤ σ.1) (o2 : (jsh o).1 = a) (hW : jWd G σ H) (hS : va_S (jA G) s.heap H locs) (hn : narrow (jty (a - 1) b) v = v) (hfit : fits (jty (a - 1) b) v = true)
    (kk : ∀ (H' : Heap) (locs' : List Loc), va_at G.1 jcls (jad G o, .inr (a - 1, (jfs G σ o (a - 1)).set b v)) H' → H'.size = H.size → (∀ q, q ≠ jad G o → H'[q]? = H[q]?) → va_S (jA G) s.heap H' locs' → W p l e R s m args below meth c H' locs' cells slots Q (F0 m (pc + 3) ls rest)) : W p l e R s m args below meth c H locs cells slots Q (F0 m pc ls (v :: .ref (jad G o) :: rest)) := by
  obtain ⟨hx, hb, hml, hown, hts, hK, hin2, hfr, hlo⟩ := cx
  have hc : a - 1 < 12 := by omega
  have he := jwl_at G o0 o1 hW.2.1
  rw [jcel_obj o2 a2] at he
  have hin := jws hc
  have hcq := jcls_at hc
  have hap := va_apart (own := own) hts hin (jty (a - 1)) (jtyp hc) (jnmd hc) hK.1 hcq
  obtain ⟨r, h1, cell, q1, q2, q3, q4⟩ := hW.2.2 (o - 1) _ he
  have hr : r = (jC (a - 1), jF (a - 1), jN (a - 1)) := Option.some.inj (h1.symm.trans hcq)
  subst hr
  obtain ⟨hSs, hfc, kC, hkC, hkind⟩ := hK.1.1 (a - 1) _ hcq
  obtain ⟨cf, kf, fi, f, hfi, hsl⟩ := hSs b a3
  have hlay := hts _ (hin _ (u_in_lay a3))
  unfold u_lay at hlay
  have hst := (u_facts hfc hkC (u_lays hts hin a3) hfi).1
  have hlen : b < (jfs G σ o (a - 1)).length := by simp [jfs]; exact a3
  have hAo : jA G (jad G o) := (jwl_D G σ).2 _ _ he
  by_cases hfin : (jF (a - 1) b).2.2.2 = true
  · rw [if_pos hfin] at hlay
    obtain ⟨g1, g2⟩ := a5 hfin
    have hcf : m.cls = cf := by
      obtain ⟨_, _, c', _, _, _, -, -, hf', -, -, -, hown2, -⟩ := Cond.laysFinal_spec hlay
      have e1 : c' = cf := by have := hfi.symm.trans hf'; simp at this; exact this.1.symm
      rw [g2] at hown2
      rw [← e1]; exact Option.some.inj (hown.symm.trans hown2)
    have h6 := u_fits hfc hkC hkind (Or.inr hlay) hfi (jtyp hc b a3) hn hfit
    refine W.putFinK hx hb hown (hts _ (jW3_in a4)) hfi hst hcf (hin2 g1) (by rw [q2]; exact h6) q1 q3 (by rw [hsl]; exact k2_hasslot (q4 b a3)) rfl rfl hd fun H' e1 e2 e3 => ?_
    rw [hsl] at e1 ⊢
    exact kk H' _ ⟨_, hcq, t_OB.to (V := updV (vp_V (jfs G σ o (a - 1))) b v) ⟨_, e1, q2, q3, t_set q4 hap a3 v⟩ (fun j _ => vp_updV_set hlen v j)⟩ e2 e3 (hS.put e2 e3 hAo)
  · rw [if_neg hfin] at hlay
    have h6 := u_store hfc hkC hkind hlay hfi (jtyp hc b a3) hn hfit
    refine W.putK hx hb (f := f) ⟨hown, hts _ (jW3_in a4), ⟨_, _, _, hfi⟩, hst⟩ (by rw [q2]; exact h6) q1 q3 (by rw [hsl]; exact k2_hasslot (q4 b a3)) rfl rfl hd fun H' e1 e2 e3 => ?_
    rw [hsl] at e1 ⊢
    exact kk H' _ ⟨_, hcq, t_OB.to (V := updV (vp_V (jfs G σ o (a - 1))) b v) ⟨_, e1, q2, q3, t_set q4 hap a3 v⟩ (fun j _ => vp_updV_set hlen v j)⟩ e2 e3 (hS.put e2 e3 hAo)
theorem jSI_I {q o k : Nat} {v : Int32} (h : q ≠ o) : (jSI σ o k v).2.2.1 q = σ.2.2.1 q := jup_ne _ _ h
theorem jSL_L {q o k : Nat} {v : Int64} (h : q ≠ o) : (jSL σ o k v).2.2.2 q = σ.2.2.2 q := jup_ne _ _ h
theorem jSR_R {q o k v : Nat} (h : q ≠ o) : (jSR σ o k v).2.1 q = σ.2.1 q := jup_ne _ _ h
theorem jw_putfield {z : Nat} (cx : jCx G X own cc nL ini p R s m args meth c) (hd : decode cc pc = .ok (.putfield z, len)) (hi : jokI S own ini ret (pc, .putfield z, len, (a, b, k, w), (iv, lv, sw)) = true) (hs : jstep X (pc, .putfield z, len, (a, b, k, w), (iv, lv, sw)) pl st σ = some (.inl (pc', pl', st', σ')))
    (kk : jWc G nL n0 p l e R s m args below meth c Q pc' pl' st' σ') : jWc G nL n0 p l e R s m args below meth c Q pc pl st σ := by
  simp only [jokI, jokF, Bool.and_eq_true, Bool.or_eq_true, decide_eq_true_eq, beq_iff_eq, Bool.not_eq_true'] at hi
  obtain ⟨rfl, ⟨⟨a1, a2, a3, hk⟩, a4⟩, a5⟩ := hi
  have a5' : (jF (a - 1) b).2.2.2 = true → ini = true ∧ (jF (a - 1) b).1 = own := fun h => by
    rcases a5 with h9 | h9
    · rw [h] at h9; cases h9
    · exact h9
  have hc : a - 1 < 12 := by omega
  simp only [jstep, jput] at hs
  split at hs
  · next x o r =>
    split at hs
    · next hcl =>
      obtain ⟨rfl, rfl, rfl, rfl⟩ := jnx_eq hs
      intro ls H locs hn hl hW hS
      obtain ⟨o0, o1, o2⟩ := jcl_in hcl (by omega) (by omega) (by omega) (by omega) hW.2.1
      simp only [List.map_cons, jcv_ref o0]
      have ht : jty (a - 1) b = .int := by
        rcases jkd_cases hc a3 with ⟨h, h1⟩ | ⟨h, -⟩ | ⟨h, -⟩ | ⟨h, -⟩
        · exact h1
        all_goals (rw [← hk] at h; cases h)
      refine jput_raw cx hd a1 a2 a3 a4 a5' o0 o1 o2 hW hS (v := .int x) (by rw [ht]; rfl) (by rw [ht]; rfl) (fun H' locs' he hz oq hS' => ?_)
      refine kk ls H' locs' hn hl (jWd_set (τ := jSI σ o b x) hW o0 o1 rfl (fun q h => jSI_I h) (fun _ _ => rfl) (fun _ _ => rfl) ?_ hz oq) hS'
      rw [jcel_obj o2 a2, jfs_set (v := .int x) (σ := σ) (b := b) (fun j hj => ?_)]
      · exact he
      · unfold jval
        by_cases hjb : j = b
        · subst hjb
          rw [← hk, if_pos rfl]
          simp [jSI, jhI, jup]
        · rw [if_neg hjb]
          simp [jSI, jhI, jup, hjb]
    · cases hs
  · next x o r =>
    split at hs
    · next hcl =>
      obtain ⟨rfl, rfl, rfl, rfl⟩ := jnx_eq hs
      intro ls H locs hn hl hW hS
      obtain ⟨o0, o1, o2⟩ := jcl_in hcl (by omega) (by omega) (by omega) (by omega) hW.2.1
      simp only [List.map_cons, jcv_ref o0]
      have ht : jty (a - 1) b = .long := by
        rcases jkd_cases hc a3 with ⟨h, h1⟩ | ⟨h, h1⟩ | ⟨h, -⟩ | ⟨h, -⟩
        · rw [← hk] at h; cases h
        · exact h1
        all_goals (rw [← hk] at h; cases h)
      refine jput_raw cx hd a1 a2 a3 a4 a5' o0 o1 o2 hW hS (v := .long x) (by rw [ht]; rfl) (by rw [ht]; rfl) (fun H' locs' he hz oq hS' => ?_)
      refine kk ls H' locs' hn hl (jWd_set (τ := jSL σ o b x) hW o0 o1 rfl (fun _ _ => rfl) (fun q h => jSL_L h) (fun _ _ => rfl) ?_ hz oq) hS'
      rw [jcel_obj o2 a2, jfs_set (v := .long x) (σ := σ) (b := b) (fun j hj => ?_)]
      · exact he
      · unfold jval
        by_cases hjb : j = b
        · subst hjb
          rw [← hk, if_pos rfl]
          simp [jSL, jhL, jup]
        · rw [if_neg hjb]
          simp [jSL, jhL, jup, hjb]
    · cases hs
  · next x o r =>
    split at hs
    · next hcl =>
      obtain ⟨rfl, rfl, rfl, rfl⟩ := jnx_eq hs
      intro ls H locs hn hl hW hS
      obtain ⟨o0, o1, o2⟩ := jcl_in hcl (by omega) (by omega) (by omega) (by omega) hW.2.1
      simp only [List.map_cons, jcv_ref o0]
      have ht : (∃ n, jty (a - 1) b = .object n) ∨ ∃ t, jty (a - 1) b = .array t := by
        rcases jkd_cases hc a3 with ⟨h, h1⟩ | ⟨h, h1⟩ | ⟨h, -⟩ | ⟨h, h1⟩
        · rw [← hk] at h; cases h
        · rw [← hk] at h; cases h
        · rw [← hk] at h; cases h
        · exact h1
      have hnf : narrow (jty (a - 1) b) (jcv G (.ref x)) = jcv G (.ref x) ∧ fits (jty (a - 1) b) (jcv G (.ref x)) = true := by
        rcases ht with ⟨n, ht⟩ | ⟨t, ht⟩ <;> rw [ht] <;> (by_cases hx0 : x = 0) <;> simp [jcv, hx0, narrow, fits]
      refine jput_raw cx hd a1 a2 a3 a4 a5' o0 o1 o2 hW hS (v := jcv G (.ref x)) hnf.1 hnf.2 (fun H' locs' he hz oq hS' => ?_)
      refine kk ls H' locs' hn hl (jWd_set (τ := jSR σ o b x) hW o0 o1 rfl (fun _ _ => rfl) (fun _ _ => rfl) (fun q h => jSR_R h) ?_ hz oq) hS'
      rw [jcel_obj o2 a2, jfs_set (v := jcv G (.ref x)) (σ := σ) (b := b) (fun j hj => ?_)]
      · exact he
      · unfold jval
        by_cases hjb : j = b
        · subst hjb
          rw [← hk, if_pos rfl]
          simp [jSR, jup]
        · rw [if_neg hjb]
          simp [jSR, jup, hjb]
    · cases hs
  · next x o r =>
    split at hs
    · next hcl =>
      obtain ⟨hcl, hx01⟩ := hcl
      obtain ⟨rfl, rfl, rfl, rfl⟩ := jnx_eq hs
      intro ls H locs hn hl hW hS
      obtain ⟨o0, o1, o2⟩ := jcl_in hcl (by omega) (by omega) (by omega) (by omega) hW.2.1
      simp only [List.map_cons, jcv_ref o0]
      have ht : jty (a - 1) b = .boolean := by
        rcases jkd_cases hc a3 with ⟨h, h1⟩ | ⟨h, h1⟩ | ⟨h, h1⟩ | ⟨h, -⟩
        · rw [← hk] at h; cases h
        · rw [← hk] at h; cases h
        · exact h1
        · rw [← hk] at h; cases h
      refine jput_raw cx hd a1 a2 a3 a4 a5' o0 o1 o2 hW hS (v := .int x) (by rw [ht]; rcases hx01 with rfl | rfl <;> rfl) (by rw [ht]; rcases hx01 with rfl | rfl <;> rfl) (fun H' locs' he hz oq hS' => ?_)
      refine kk ls H' locs' hn hl (jWd_set (τ := jSI σ o b x) hW o0 o1 rfl (fun q h => jSI_I h) (fun _ _ => rfl) (fun _ _ => rfl) ?_ hz oq) hS'
      rw [jcel_obj o2 a2, jfs_set (v := .int x) (σ := σ) (b := b) (fun j hj => ?_)]
      · exact he
      · unfold jval
        by_cases hjb : j = b
        · subst hjb
          rw [← hk, if_pos rfl]
          simp [jSI, jhI, jup]
        · rw [if_neg hjb]
          simp [jSI, jhI, jup, hjb]
    · cases hs
  · cases hs
end JT
