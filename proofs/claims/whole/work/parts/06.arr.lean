/-! Rows of numbers, statics, new cells -/
theorem jSR_at {G : jG} {σ : jS} {o k v : Nat} (hv : v ≠ 0) : (fun q => jro G ((jSR σ o k v).2.1 o q)) = va_up (fun q => jro G (σ.2.1 o q)) k (some (jad G v)) := by
  funext q
  simp only [jSR, jup_row, va_up]
  split
  · simp [jro, hv]
  · rfl
section JA
variable {p : Program} {l : Launch} {e : Env} {R : Room} {s : State} {m : MethodId} {args : Array Value} {below : List Frame} {meth : Method} {c : Code} {Q : State → Prop}
variable {G : jG} {X : jX} {own : String} {cc : ByteArray} {nL n0 : Nat} {ini : Bool} {S : List jSg} {ret : Option FieldType}
variable {pc : Nat} {pl pl' : jPL} {st st' : List Value} {σ σ' : jS} {pc' len a b k w : Nat} {iv : Int32} {lv : Int64} {sw : List (Int32 × Nat)} {ins : Instr}
theorem jw_getstatic {z : Nat} (cx : jCx G X own cc nL ini p R s m args meth c) (hd : decode cc pc = .ok (.getstatic z, len)) (hi : jokI S own ini ret (pc, .getstatic z, len, (a, b, k, w), (iv, lv, sw)) = true) (hs : jstep X (pc, .getstatic z, len, (a, b, k, w), (iv, lv, sw)) pl st σ = some (.inl (pc', pl', st', σ')))
    (kk : jWc G nL n0 p l e R s m args below meth c Q pc' pl' st' σ') : jWc G nL n0 p l e R s m args below meth c Q pc pl st σ := by
  obtain ⟨hx, hb, hml, hown, hts, hK, hin, hfr, hlo⟩ := cx
  simp only [jokI, Bool.and_eq_true, Bool.or_eq_true, decide_eq_true_eq, beq_iff_eq] at hi
  obtain ⟨rfl, hi⟩ := hi
  simp only [jstep, jgst] at hs
  obtain ⟨rfl, rfl, rfl, rfl⟩ := jnx_eq hs
  intro ls H locs hn hl hW hS
  have h0 := kk ls H locs hn hl hW hS
  have hz : (1000 + a : Nat) ≠ 0 := by omega
  rcases hi with ⟨h1, hi⟩ | ⟨rfl, hi⟩
  · have hj : jad G (1000 + a) = G.2.2.2.1 a := by
      unfold jad
      rw [if_neg (by omega), if_pos (by omega), show 1000 + a - 1000 = a by omega]
    simp only [List.map_cons, jcv_ref hz, hj] at h0
    exact va_gets hx hb (hK.2.1 a h1).1 hS hown (hts _ (jW3_in hi)) (fun _ h => h) hd h0
  · simp only [List.map_cons, jcv_ref hz] at h0
    exact va_gets hx hb hK.2.2.1 hS hown (hts _ (jW3_in hi)) (fun _ h => h) hd h0
theorem jw_arraylength (cx : jCx G X own cc nL ini p R s m args meth c) (hd : decode cc pc = .ok (.arraylength, len)) (hi : jokI S own ini ret (pc, .arraylength, len, (a, b, k, w), (iv, lv, sw)) = true) (hs : jstep X (pc, .arraylength, len, (a, b, k, w), (iv, lv, sw)) pl st σ = some (.inl (pc', pl', st', σ')))
    (kk : jWc G nL n0 p l e R s m args below meth c Q pc' pl' st' σ') : jWc G nL n0 p l e R s m args below meth c Q pc pl st σ := by
  obtain ⟨hx, hb, hml, hown, hts, hK, hin, hfr, hlo⟩ := cx
  obtain rfl : len = 1 := by simpa [jokI] using hi
  simp only [jstep, jal] at hs
  split at hs
  · next o r =>
    split at hs
    · next hcl =>
      obtain ⟨rfl, rfl, rfl, rfl⟩ := jnx_eq hs
      intro ls H locs hn hl hW hS
      have h0 := kk ls H locs hn hl hW hS
      obtain ⟨o0, o1, o2⟩ := jcl_in (a := jcl σ'.1 o) rfl (by omega) (by omega) (by omega) (by omega) hW.2.1
      have he := jwl_at G o0 o1 hW.2.1
      simp only [List.map_cons, jcv_ref o0]
      rcases (show (jsh o).1 = 20 ∨ (jsh o).1 = 21 ∨ (jsh o).1 = 22 ∨ (jsh o).1 = 23 by omega) with h | h | h | h
      · rw [jcel_20 h] at he
        exact va_alen hx hb hK.1 hW.2.2 (o - 1) 0 he rfl rfl hd h0
      · rw [jcel_21 h] at he
        exact va_alen hx hb hK.1 hW.2.2 (o - 1) 1 he rfl rfl hd h0
      · rw [jcel_22 h] at he
        exact va_alen hx hb hK.1 hW.2.2 (o - 1) 2 he rfl rfl hd h0
      · rw [jcel_23 h] at he
        exact va_alen hx hb hK.1 hW.2.2 (o - 1) 3 he rfl rfl hd h0
    · split at hs
      · next hcl =>
        obtain ⟨rfl, rfl, rfl, rfl⟩ := jnx_eq hs
        intro ls H locs hn hl hW hS
        have h0 := kk ls H locs hn hl hW hS
        obtain rfl := jcl_24 hcl
        exact va_tlen hx hb hK.2.2.2.1 hS rfl hd h0
      · split at hs
        · next hcl =>
          obtain ⟨rfl, rfl, rfl, rfl⟩ := jnx_eq hs
          intro ls H locs hn hl hW hS
          have h0 := kk ls H locs hn hl hW hS
          obtain rfl := jcl_25 hcl
          obtain ⟨k1, k2, k3, -⟩ := hK.2.2.2.2
          exact va_slen hx hb k1 (Nat.lt_of_lt_of_le k2 k3) (Nat.not_le.mpr k2) hS hd h0
        · cases hs
  · cases hs
theorem jw_iaload (cx : jCx G X own cc nL ini p R s m args meth c) (hd : decode cc pc = .ok (.iaload, len)) (hi : jokI S own ini ret (pc, .iaload, len, (a, b, k, w), (iv, lv, sw)) = true) (hs : jstep X (pc, .iaload, len, (a, b, k, w), (iv, lv, sw)) pl st σ = some (.inl (pc', pl', st', σ')))
    (kk : jWc G nL n0 p l e R s m args below meth c Q pc' pl' st' σ') : jWc G nL n0 p l e R s m args below meth c Q pc pl st σ := by
  obtain ⟨hx, hb, hml, hown, hts, hK, hin, hfr, hlo⟩ := cx
  obtain rfl : len = 1 := by simpa [jokI] using hi
  simp only [jstep, jiald] at hs
  split at hs
  · next i o r =>
    split at hs
    · next hcl =>
      obtain ⟨rfl, rfl, rfl, rfl⟩ := jnx_eq hs
      intro ls H locs hn hl hW hS
      have h0 := kk ls H locs hn hl hW hS
      obtain ⟨o0, o1, o2⟩ := jcl_in hcl.1 (by omega) (by omega) (by omega) (by omega) hW.2.1
      have he := jwl_at G o0 o1 hW.2.1
      rw [jcel_20 o2] at he
      simp only [List.map_cons, jcv_ref o0]
      exact va_iald hx hb hK.1 hW.2.2 (o - 1) 0 he rfl (jin_vp hcl.2) hd h0
    · split at hs
      · next hcl =>
        obtain ⟨rfl, rfl, rfl, rfl⟩ := jnx_eq hs
        intro ls H locs hn hl hW hS
        have h0 := kk ls H locs hn hl hW hS
        obtain rfl := jcl_25 hcl.1
        obtain ⟨k1, k2, k3, -⟩ := hK.2.2.2.2
        exact va_sld hx hb k1 (Nat.lt_of_lt_of_le k2 k3) (Nat.not_le.mpr k2) hS (jin_vp hcl.2) hd h0
      · cases hs
  · cases hs
theorem jw_laload (cx : jCx G X own cc nL ini p R s m args meth c) (hd : decode cc pc = .ok (.laload, len)) (hi : jokI S own ini ret (pc, .laload, len, (a, b, k, w), (iv, lv, sw)) = true) (hs : jstep X (pc, .laload, len, (a, b, k, w), (iv, lv, sw)) pl st σ = some (.inl (pc', pl', st', σ')))
    (kk : jWc G nL n0 p l e R s m args below meth c Q pc' pl' st' σ') : jWc G nL n0 p l e R s m args below meth c Q pc pl st σ := by
  obtain ⟨hx, hb, hml, hown, hts, hK, hin, hfr, hlo⟩ := cx
  obtain rfl : len = 1 := by simpa [jokI] using hi
  simp only [jstep, jlald] at hs
  split at hs
  · next i o r =>
    split at hs
    · next hcl =>
      obtain ⟨rfl, rfl, rfl, rfl⟩ := jnx_eq hs
      intro ls H locs hn hl hW hS
      have h0 := kk ls H locs hn hl hW hS
      obtain ⟨o0, o1, o2⟩ := jcl_in hcl.1 (by omega) (by omega) (by omega) (by omega) hW.2.1
      have he := jwl_at G o0 o1 hW.2.1
      rw [jcel_21 o2] at he
      simp only [List.map_cons, jcv_ref o0]
      exact va_lald hx hb hK.1 hW.2.2 (o - 1) 1 he rfl (jin_vp hcl.2) hd h0
    · cases hs
  · cases hs
theorem jw_caload (cx : jCx G X own cc nL ini p R s m args meth c) (hd : decode cc pc = .ok (.caload, len)) (hi : jokI S own ini ret (pc, .caload, len, (a, b, k, w), (iv, lv, sw)) = true) (hs : jstep X (pc, .caload, len, (a, b, k, w), (iv, lv, sw)) pl st σ = some (.inl (pc', pl', st', σ')))
    (kk : jWc G nL n0 p l e R s m args below meth c Q pc' pl' st' σ') : jWc G nL n0 p l e R s m args below meth c Q pc pl st σ := by
  obtain ⟨hx, hb, hml, hown, hts, hK, hin, hfr, hlo⟩ := cx
  obtain rfl : len = 1 := by simpa [jokI] using hi
  simp only [jstep, jcald] at hs
  split at hs
  · next i o r =>
    split at hs
    · next hcl =>
      obtain ⟨rfl, rfl, rfl, rfl⟩ := jnx_eq hs
      intro ls H locs hn hl hW hS
      have h0 := kk ls H locs hn hl hW hS
      obtain ⟨o0, o1, o2⟩ := jcl_in hcl.1 (by omega) (by omega) (by omega) (by omega) hW.2.1
      have he := jwl_at G o0 o1 hW.2.1
      rw [jcel_22 o2] at he
      simp only [List.map_cons, jcv_ref o0]
      exact va_cald hx hb hK.1 hW.2.2 (o - 1) 2 he rfl (jin_vp hcl.2) hd h0
    · cases hs
  · cases hs
theorem jw_aaload (cx : jCx G X own cc nL ini p R s m args meth c) (hd : decode cc pc = .ok (.aaload, len)) (hi : jokI S own ini ret (pc, .aaload, len, (a, b, k, w), (iv, lv, sw)) = true) (hs : jstep X (pc, .aaload, len, (a, b, k, w), (iv, lv, sw)) pl st σ = some (.inl (pc', pl', st', σ')))
    (kk : jWc G nL n0 p l e R s m args below meth c Q pc' pl' st' σ') : jWc G nL n0 p l e R s m args below meth c Q pc pl st σ := by
  obtain ⟨hx, hb, hml, hown, hts, hK, hin, hfr, hlo⟩ := cx
  obtain rfl : len = 1 := by simpa [jokI] using hi
  simp only [jstep, jaald] at hs
  split at hs
  · next i o r =>
    split at hs
    · next hcl =>
      obtain ⟨rfl, rfl, rfl, rfl⟩ := jnx_eq hs
      intro ls H locs hn hl hW hS
      have h0 := kk ls H locs hn hl hW hS
      obtain ⟨o0, o1, o2⟩ := jcl_in hcl.1 (by omega) (by omega) (by omega) (by omega) hW.2.1
      have he := jwl_at G o0 o1 hW.2.1
      rw [jcel_23 o2] at he
      simp only [List.map_cons, ← jro_rf G (σ'.2.1 o i.toNatClampNeg)] at h0
      simp only [List.map_cons, jcv_ref o0]
      exact va_aldq hx hb hK.1 hW.2.2 (o - 1) 3 he rfl (jin_vp hcl.2) hd h0
    · split at hs
      · next hcl =>
        obtain ⟨rfl, rfl, rfl, rfl⟩ := jnx_eq hs
        intro ls H locs hn hl hW hS
        have h0 := kk ls H locs hn hl hW hS
        obtain rfl := jcl_24 hcl.1
        obtain ⟨h1, h2⟩ := hcl.2
        have hj : jcv G (.ref (1000 + i.toNatClampNeg)) = .ref (G.2.2.2.1 i.toNatClampNeg) := by
          rw [jcv_ref (by omega)]
          unfold jad
          rw [if_neg (by omega), if_pos (by omega), show 1000 + i.toNatClampNeg - 1000 = i.toNatClampNeg by omega]
        simp only [List.map_cons, hj] at h0
        obtain ⟨cell, t1, t2, t3, t4, t5, t6, t7⟩ := hK.2.2.2.1
        refine W.aald (v := .ref (G.2.2.2.1 i.toNatClampNeg)) hx hb (by show H[G.2.2.2.2.1]? = _; rw [hS.2.1 _ (Array.getElem?_eq_some_iff.mp t1).1 t7]; exact t1) t2 rfl t3 (fun q => ?_) (t6 _ h2) rfl rfl hd h0
        rcases q with q | q
        · exact h1 q
        · omega
      · cases hs
  · cases hs
theorem jw_iastore (cx : jCx G X own cc nL ini p R s m args meth c) (hd : decode cc pc = .ok (.iastore, len)) (hi : jokI S own ini ret (pc, .iastore, len, (a, b, k, w), (iv, lv, sw)) = true) (hs : jstep X (pc, .iastore, len, (a, b, k, w), (iv, lv, sw)) pl st σ = some (.inl (pc', pl', st', σ')))
    (kk : jWc G nL n0 p l e R s m args below meth c Q pc' pl' st' σ') : jWc G nL n0 p l e R s m args below meth c Q pc pl st σ := by
  obtain ⟨hx, hb, hml, hown, hts, hK, hin, hfr, hlo⟩ := cx
  obtain rfl : len = 1 := by simpa [jokI] using hi
  simp only [jstep, jiast] at hs
  split at hs
  · next x i o r =>
    split at hs
    · next hcl =>
      obtain ⟨rfl, rfl, rfl, rfl⟩ := jnx_eq hs
      intro ls H locs hn hl hW hS
      obtain ⟨o0, o1, o2⟩ := jcl_in hcl.1 (by omega) (by omega) (by omega) (by omega) hW.2.1
      have he := jwl_at G o0 o1 hW.2.1
      rw [jcel_20 o2] at he
      simp only [List.map_cons, jcv_ref o0]
      refine W.iast hx hb (hW.2.2 (o - 1) _ he) ((hK.1.2 0 _ rfl).1 (jsh o).2 (fun j => .int (σ.2.2.1 o j))) (fun q => by cases q) (by show ¬ (i < 0 ∨ (arrV _ _ _).slots.size ≤ _); rw [arrV_size]; exact jin_vp hcl.2) rfl rfl hd (fun H' e1 e2 e3 => ?_)
      refine kk ls H' _ hn hl (jWd_set (τ := jSI σ o i.toNatClampNeg x) hW o0 o1 rfl (fun q h => jSI_I h) (fun _ _ => rfl) (fun _ _ => rfl) ?_ e2 e3) (hS.put e2 e3 ((jwl_D G σ).2 _ _ he))
      rw [jcel_20 o2]
      refine Eq.trans e1 (congrArg some ?_)
      show (arrV (G.2.1 20) (jsh o).2 (fun j => .int (σ.2.2.1 o j))).setSlot i.toNatClampNeg (.int x) = arrV (G.2.1 20) (jsh o).2 (fun j => .int ((jSI σ o i.toNatClampNeg x).2.2.1 o j))
      rw [arrV_store]
      congr 1
      funext q
      simp only [updV, jSI, jhI, jup_row]
      split <;> rfl
    · cases hs
  · cases hs
theorem jw_lastore (cx : jCx G X own cc nL ini p R s m args meth c) (hd : decode cc pc = .ok (.lastore, len)) (hi : jokI S own ini ret (pc, .lastore, len, (a, b, k, w), (iv, lv, sw)) = true) (hs : jstep X (pc, .lastore, len, (a, b, k, w), (iv, lv, sw)) pl st σ = some (.inl (pc', pl', st', σ')))
    (kk : jWc G nL n0 p l e R s m args below meth c Q pc' pl' st' σ') : jWc G nL n0 p l e R s m args below meth c Q pc pl st σ := by
  obtain ⟨hx, hb, hml, hown, hts, hK, hin, hfr, hlo⟩ := cx
  obtain rfl : len = 1 := by simpa [jokI] using hi
  simp only [jstep, jlast] at hs
  split at hs
  · next x i o r =>
    split at hs
    · next hcl =>
      obtain ⟨rfl, rfl, rfl, rfl⟩ := jnx_eq hs
      intro ls H locs hn hl hW hS
      obtain ⟨o0, o1, o2⟩ := jcl_in hcl.1 (by omega) (by omega) (by omega) (by omega) hW.2.1
      have he := jwl_at G o0 o1 hW.2.1
      rw [jcel_21 o2] at he
      simp only [List.map_cons, jcv_ref o0]
      refine W.last hx hb (hW.2.2 (o - 1) _ he) ((hK.1.2 1 _ rfl).1 (jsh o).2 (fun j => .long (σ.2.2.2 o j))) (fun q => by cases q) (by show ¬ (i < 0 ∨ (arrV _ _ _).slots.size ≤ _); rw [arrV_size]; exact jin_vp hcl.2) rfl rfl hd (fun H' e1 e2 e3 => ?_)
      refine kk ls H' _ hn hl (jWd_set (τ := jSL σ o i.toNatClampNeg x) hW o0 o1 rfl (fun _ _ => rfl) (fun q h => jSL_L h) (fun _ _ => rfl) ?_ e2 e3) (hS.put e2 e3 ((jwl_D G σ).2 _ _ he))
      rw [jcel_21 o2]
      refine Eq.trans e1 (congrArg some ?_)
      show (arrV (G.2.1 21) (jsh o).2 (fun j => .long (σ.2.2.2 o j))).setSlot i.toNatClampNeg (.long x) = arrV (G.2.1 21) (jsh o).2 (fun j => .long ((jSL σ o i.toNatClampNeg x).2.2.2 o j))
      rw [arrV_store]
      congr 1
      funext q
      simp only [updV, jSL, jhL, jup_row]
      split <;> rfl
    · cases hs
  · cases hs
theorem jw_castore (cx : jCx G X own cc nL ini p R s m args meth c) (hd : decode cc pc = .ok (.castore, len)) (hi : jokI S own ini ret (pc, .castore, len, (a, b, k, w), (iv, lv, sw)) = true) (hs : jstep X (pc, .castore, len, (a, b, k, w), (iv, lv, sw)) pl st σ = some (.inl (pc', pl', st', σ')))
    (kk : jWc G nL n0 p l e R s m args below meth c Q pc' pl' st' σ') : jWc G nL n0 p l e R s m args below meth c Q pc pl st σ := by
  obtain ⟨hx, hb, hml, hown, hts, hK, hin, hfr, hlo⟩ := cx
  obtain rfl : len = 1 := by simpa [jokI] using hi
  simp only [jstep, jcast] at hs
  split at hs
  · next x i o r =>
    split at hs
    · next hcl =>
      obtain ⟨rfl, rfl, rfl, rfl⟩ := jnx_eq hs
      intro ls H locs hn hl hW hS
      obtain ⟨o0, o1, o2⟩ := jcl_in hcl.1 (by omega) (by omega) (by omega) (by omega) hW.2.1
      have he := jwl_at G o0 o1 hW.2.1
      rw [jcel_22 o2] at he
      simp only [List.map_cons, jcv_ref o0]
      refine W.cast hx hb (hW.2.2 (o - 1) _ he) ((hK.1.2 2 _ rfl).1 (jsh o).2 (fun j => .int (σ.2.2.1 o j))) (fun q => by cases q) (by show ¬ (i < 0 ∨ (arrV _ _ _).slots.size ≤ _); rw [arrV_size]; exact jin_vp hcl.2) rfl rfl hd (fun H' e1 e2 e3 => ?_)
      refine kk ls H' _ hn hl (jWd_set (τ := jSI σ o i.toNatClampNeg (vp_nar .char x)) hW o0 o1 rfl (fun q h => jSI_I h) (fun _ _ => rfl) (fun _ _ => rfl) ?_ e2 e3) (hS.put e2 e3 ((jwl_D G σ).2 _ _ he))
      rw [jcel_22 o2]
      refine Eq.trans e1 (congrArg some ?_)
      show (arrV (G.2.1 22) (jsh o).2 (fun j => .int (σ.2.2.1 o j))).setSlot i.toNatClampNeg (.int (vp_nar .char x)) = arrV (G.2.1 22) (jsh o).2 (fun j => .int ((jSI σ o i.toNatClampNeg (vp_nar .char x)).2.2.1 o j))
      rw [arrV_store]
      congr 1
      funext q
      simp only [updV, jSI, jhI, jup_row]
      split <;> rfl
    · cases hs
  · cases hs
theorem jw_aastore (cx : jCx G X own cc nL ini p R s m args meth c) (hd : decode cc pc = .ok (.aastore, len)) (hi : jokI S own ini ret (pc, .aastore, len, (a, b, k, w), (iv, lv, sw)) = true) (hs : jstep X (pc, .aastore, len, (a, b, k, w), (iv, lv, sw)) pl st σ = some (.inl (pc', pl', st', σ')))
    (kk : jWc G nL n0 p l e R s m args below meth c Q pc' pl' st' σ') : jWc G nL n0 p l e R s m args below meth c Q pc pl st σ := by
  obtain ⟨hx, hb, hml, hown, hts, hK, hin, hfr, hlo⟩ := cx
  obtain rfl : len = 1 := by simpa [jokI] using hi
  simp only [jstep, jaast] at hs
  split at hs
  · next x i o r =>
    split at hs
    · next hcl =>
      obtain ⟨hcl, hx1, hx2⟩ := hcl
      obtain ⟨rfl, rfl, rfl, rfl⟩ := jnx_eq hs
      intro ls H locs hn hl hW hS
      obtain ⟨o0, o1, o2⟩ := jcl_in hcl.1 (by omega) (by omega) (by omega) (by omega) hW.2.1
      obtain ⟨x0, x1, x2⟩ := jcl_in hx2 (by omega) (by omega) (by omega) (by omega) hW.2.1
      have he := jwl_at G o0 o1 hW.2.1
      rw [jcel_23 o2] at he
      have hv := jwl_at G x0 x1 hW.2.1
      rw [jcel_obj x2 (by omega)] at hv
      simp only [List.map_cons, jcv_ref o0, jcv_ref x0]
      obtain ⟨r', hr', cellV, g1, g2, g3, -⟩ := hW.2.2 (x - 1) _ hv
      have hcls := (hK.1.1 5 _ (jcls_at (by omega))).2
      obtain ⟨kA, comp, k1, k2, k3, -⟩ := (hK.1.2 3 _ rfl).2
      have hcomp : comp = G.1.1 5 := Option.some.inj (k3.symm.trans hcls.1)
      subst hcomp
      obtain ⟨kC, hkC, -⟩ := hcls.2
      refine W.aast hx hb (hW.2.2 (o - 1) _ he) (fun q h => by cases h) (fun h => by cases h) k1 k2 rfl hkC ⟨hcl.2.1, by show _ < (arrV _ _ _).slots.size; rw [arrV_size]; exact hcl.2.2⟩ g1 (fun q h => by rw [g3] at h; cases h) (by rw [g2]; exact hkC) (by rw [g2]; exact va_assign hcls) rfl rfl hd fun H' e1 e2 e3 => ?_
      refine kk ls H' _ hn hl (jWd_set (τ := jSR σ o i.toNatClampNeg x) hW o0 o1 rfl (fun _ _ => rfl) (fun _ _ => rfl) (fun q h => jSR_R h) ?_ e2 e3) (hS.put e2 e3 ((jwl_D G σ).2 _ _ he))
      rw [jcel_23 o2]
      refine Eq.trans e1 (congrArg some ?_)
      show (arrV _ _ _).setSlot _ _ = arrV _ _ (fun j => va_rf (jro G ((jSR σ o i.toNatClampNeg x).2.1 o j)))
      rw [arrV_store]
      congr 1
      funext q
      simp only [updV, jSR, jup_row]
      split
      · simp [jro, x0, va_rf]
      · rfl
    · cases hs
  · cases hs
theorem jnew_I {q : Nat} (h : q ≠ (jnew σ).1) : (jnew σ).2.2.1 q = σ.2.2.1 q := by
  funext j
  have h' : q ≠ σ.1 + 1 := h
  simp [jnew, jcr, h']
theorem jnew_L {q : Nat} (h : q ≠ (jnew σ).1) : (jnew σ).2.2.2 q = σ.2.2.2 q := by
  funext j
  have h' : q ≠ σ.1 + 1 := h
  simp [jnew, jcr, h']
theorem jnew_R {q : Nat} (h : q ≠ (jnew σ).1) : (jnew σ).2.1 q = σ.2.1 q := by
  funext j
  have h' : q ≠ σ.1 + 1 := h
  simp [jnew, jcr, h']
theorem jWd_new {H H1 : Heap} (hW : jWd G σ H) (h1 : σ.1 + 1 < 1000) (z1 : H1.size = H.size + 1) (o1 : ∀ q : Nat, q < H.size → H1[q]? = H[q]?) (he : va_at G.1 jcls (G.2.2.1 + σ.1, jcel G (jnew σ) (jnew σ).1) H1) : jWd G (jnew σ) H1 := by
  refine ⟨by rw [z1, hW.1]; show _ = G.2.2.1 + (σ.1 + 1); omega, h1, ?_⟩
  have hk : va_P G.1 jcls (jwl G σ) H1 := hW.2.2.kept (fun k x hx => o1 x.1 ((hW.2.2 k x hx).lt))
  have h2 : va_P G.1 jcls [(G.2.2.1 + σ.1, jcel G (jnew σ) (jnew σ).1)] H1 := by
    intro k x hx
    have hz : k < 1 := (List.getElem?_eq_some_iff.mp hx).1
    rw [show k = 0 by omega] at hx
    cases hx
    exact he
  have h3 := hk.app h2
  rwa [jwl_app G rfl (fun q h => jnew_I h) (fun q h => jnew_L h) (fun q h => jnew_R h)] at h3
theorem jcv_new {H : Heap} (hW : jWd G σ H) (h1 : σ.1 + 1 < 1000) : jcv G (.ref (σ.1 + 1)) = .ref H.size := by
  rw [jcv_ref (by omega), hW.1]
  unfold jad
  rw [if_pos (by omega)]
  rfl
theorem jS_new {H H1 : Heap} {locs : List Loc} (hS : va_S (jA G) s.heap H locs) (z1 : H1.size = H.size + 1) (o1 : ∀ q : Nat, q < H.size → H1[q]? = H[q]?) : va_S (jA G) s.heap H1 locs := ⟨Nat.le_trans hS.1 (by omega), fun x h1 h2 => (o1 x (Nat.lt_of_lt_of_le h1 hS.1)).trans (hS.2.1 x h1 h2), hS.2.2⟩
theorem jw_new {z : Nat} (cx : jCx G X own cc nL ini p R s m args meth c) (hd : decode cc pc = .ok (.new z, len)) (hi : jokI S own ini ret (pc, .new z, len, (a, b, k, w), (iv, lv, sw)) = true) (hs : jstep X (pc, .new z, len, (a, b, k, w), (iv, lv, sw)) pl st σ = some (.inl (pc', pl', st', σ')))
    (hrm : jcn n0 σ'.1 ≤ R.cells ∧ jsn n0 σ'.1 ≤ R.slots)
    (kk : jWc G nL n0 p l e R s m args below meth c Q pc' pl' st' σ') : jWc G nL n0 p l e R s m args below meth c Q pc pl st σ := by
  obtain ⟨hx, hb, hml, hown, hts, hK, hin, hfr, hlo⟩ := cx
  simp only [jokI, Bool.and_eq_true, decide_eq_true_eq, beq_iff_eq] at hi
  obtain ⟨rfl, ⟨a1, a2⟩, a3⟩ := hi
  have hc : a - 1 < 12 := by omega
  simp only [jstep, jnob] at hs
  split at hs
  · next hq =>
    obtain ⟨hq1, hq2⟩ := hq
    obtain ⟨rfl, rfl, rfl, rfl⟩ := jnx_eq hs
    intro ls H locs hn hl hW hS
    have hKn := hK.1.1 (a - 1) _ (jcls_at hc)
    have hlen : (jsh (σ.1 + 1)).2 = jN (a - 1) := by
      rw [← hq2]
      exact (jsh_ok (σ.1 + 1)).2.2 (by omega) (by omega)
    have e1 : jcn n0 (jnew σ).1 = jcn n0 σ.1 + 1 := jcn_1 hn
    have e2 : jsn n0 (jnew σ).1 = jsn n0 σ.1 + jN (a - 1) := by rw [← hlen]; exact jsn_1 hn
    rw [e1, e2] at hrm
    refine W.newcK hx hb hown (hts _ (jW3_in a3)) (hts _ (jinst hc)) (hts _ (jinit hc)) rfl hd hrm.1 hrm.2 hKn.2.1 rfl fun H1 kC hkC b1 z1 o1 => ?_
    have hfs := (u_born (jty (a - 1)) hts (jws hc) hKn hkC b1 (jtyp hc)).to (V' := vp_V (jfs G (jnew σ) (σ.1 + 1) (a - 1))) (fun j hj => by
      have h9 : vp_V (jfs G (jnew σ) (σ.1 + 1) (a - 1)) j = jval G (jnew σ) (σ.1 + 1) (a - 1) j := by
        unfold vp_V
        rw [List.getD_eq_getElem?_getD, jfs_at hj]
        rfl
      rw [h9]
      rcases jkd_cases hc hj with ⟨g1, g2⟩ | ⟨g1, g2⟩ | ⟨g1, g2⟩ | ⟨g1, ⟨n, g2⟩ | ⟨n, g2⟩⟩ <;> simp [jval, g1, g2, jnew, jcr, jcv, defaultValue])
    have hnew : jWd G (jnew σ) H1 := jWd_new hW hq1 z1 o1 (by
      rw [jcel_obj (show (jsh (jnew σ).1).1 = a from hq2) a2]
      refine ⟨_, jcls_at hc, ?_⟩
      rw [hW.1] at hfs
      exact hfs)
    have h0 := kk ls H1 locs (by show n0 ≤ σ.1 + 1; omega) hl hnew (jS_new hS z1 o1)
    rw [e1, e2] at h0
    simp only [List.map_cons, jcv_new hW hq1] at h0
    exact h0
  · cases hs
theorem jarr_new {H H1 : Heap} {cA : ClassId} {N : Nat} {ty : FieldType} (hW : jWd G σ H) (h1 : σ.1 + 1 < 1000) (z1 : H1.size = H.size + 1) (o1 : ∀ q : Nat, q < H.size → H1[q]? = H[q]?) (hN : N = (jsh (σ.1 + 1)).2) (e1 : H1[H.size]? = some (arrV cA N (fun _ => defaultValue ty)))
    (hk : ((jsh (σ.1 + 1)).1 = 20 ∧ ty = .int ∧ cA = G.2.1 20) ∨ ((jsh (σ.1 + 1)).1 = 21 ∧ ty = .long ∧ cA = G.2.1 21) ∨ ((jsh (σ.1 + 1)).1 = 22 ∧ ty = .char ∧ cA = G.2.1 22) ∨ ((jsh (σ.1 + 1)).1 = 23 ∧ (∃ n, ty = .object n) ∧ cA = G.2.1 23)) : jWd G (jnew σ) H1 := by
  subst hN
  refine jWd_new hW h1 z1 o1 ?_
  rw [hW.1] at e1
  rcases hk with ⟨q, rfl, rfl⟩ | ⟨q, rfl, rfl⟩ | ⟨q, rfl, rfl⟩ | ⟨q, ⟨n, rfl⟩, rfl⟩
  · rw [jcel_20 (show (jsh (jnew σ).1).1 = 20 from q)]
    refine Eq.trans e1 (congrArg some ?_)
    show arrV _ _ (fun _ => defaultValue .int) = arrV (G.2.1 20) (jsh (jnew σ).1).2 (fun j => .int ((jnew σ).2.2.1 (jnew σ).1 j))
    congr 1
    funext j
    simp [jnew, jcr, defaultValue]
  · rw [jcel_21 (show (jsh (jnew σ).1).1 = 21 from q)]
    refine Eq.trans e1 (congrArg some ?_)
    show arrV _ _ (fun _ => defaultValue .long) = arrV (G.2.1 21) (jsh (jnew σ).1).2 (fun j => .long ((jnew σ).2.2.2 (jnew σ).1 j))
    congr 1
    funext j
    simp [jnew, jcr, defaultValue]
  · rw [jcel_22 (show (jsh (jnew σ).1).1 = 22 from q)]
    refine Eq.trans e1 (congrArg some ?_)
    show arrV _ _ (fun _ => defaultValue .char) = arrV (G.2.1 22) (jsh (jnew σ).1).2 (fun j => .int ((jnew σ).2.2.1 (jnew σ).1 j))
    congr 1
    funext j
    simp [jnew, jcr, defaultValue]
  · rw [jcel_23 (show (jsh (jnew σ).1).1 = 23 from q)]
    refine Eq.trans e1 (congrArg some ?_)
    show arrV _ _ (fun _ => defaultValue (.object n)) = arrV (G.2.1 23) (jsh (jnew σ).1).2 (fun k => va_rf (jro G ((jnew σ).2.1 (jnew σ).1 k)))
    congr 1
    funext j
    simp [jnew, jcr, defaultValue, jro, va_rf]
theorem jarr_in : Jvm.Cond.arrayClass .int ∈ jtb ∧ Jvm.Cond.arrayClass .long ∈ jtb ∧ Jvm.Cond.arrayClass .char ∈ jtb := ⟨jin_tbl (i := 161) (by decide +kernel), jin_tbl (i := 282) (by decide +kernel), jin_tbl (i := 1748) (by decide +kernel)⟩
theorem jw_newarray {z : ArrayType} (cx : jCx G X own cc nL ini p R s m args meth c) (hd : decode cc pc = .ok (.newarray z, len)) (hi : jokI S own ini ret (pc, .newarray z, len, (a, b, k, w), (iv, lv, sw)) = true) (hs : jstep X (pc, .newarray z, len, (a, b, k, w), (iv, lv, sw)) pl st σ = some (.inl (pc', pl', st', σ')))
    (hrm : jcn n0 σ'.1 ≤ R.cells ∧ jsn n0 σ'.1 ≤ R.slots)
    (kk : jWc G nL n0 p l e R s m args below meth c Q pc' pl' st' σ') : jWc G nL n0 p l e R s m args below meth c Q pc pl st σ := by
  obtain ⟨hx, hb, hml, hown, hts, hK, hin, hfr, hlo⟩ := cx
  simp only [jokI, Bool.and_eq_true, beq_iff_eq] at hi
  obtain ⟨rfl, a3⟩ := hi
  simp only [jstep, jnar] at hs
  split at hs
  · next mm r =>
    split at hs
    · next hq =>
      obtain ⟨hq1, hq2, hq3, hq4⟩ := hq
      obtain ⟨rfl, rfl, rfl, rfl⟩ := jnx_eq hs
      intro ls H locs hn hl hW hS
      have e1 : jcn n0 (jnew σ).1 = jcn n0 σ.1 + 1 := jcn_1 hn
      have e2 : jsn n0 (jnew σ).1 = jsn n0 σ.1 + (jsh (σ.1 + 1)).2 := jsn_1 hn
      rw [e1, e2] at hrm
      have hsm := (jsh_ok (σ.1 + 1)).2.1
      cases z with
      | int =>
        have ha : a = 20 := by simpa using a3
        subst ha
        refine va_newaK (atype := .int) hx hb (hts _ jarr_in.1) rfl hd rfl hq3 hq4 (by show _ * 4 ≤ _; omega) hrm.1 hrm.2 rfl fun H1 cA b1 z1 o1 _ hfc => ?_
        have hcA : cA = G.2.1 20 := Option.some.inj (hfc.symm.trans (hK.1.2 0 _ rfl).2)
        have h0 := kk ls H1 locs (by show n0 ≤ σ.1 + 1; omega) hl (jarr_new hW hq1 z1 o1 rfl b1 (Or.inl ⟨hq2, rfl, hcA⟩)) (jS_new hS z1 o1)
        rw [e1, e2] at h0
        simp only [List.map_cons, jcv_new hW hq1] at h0
        exact h0
      | long =>
        have ha : a = 21 := by simpa using a3
        subst ha
        refine va_newaK (atype := .long) hx hb (hts _ jarr_in.2.1) rfl hd rfl hq3 hq4 (by show _ * 8 ≤ _; omega) hrm.1 hrm.2 rfl fun H1 cA b1 z1 o1 _ hfc => ?_
        have hcA : cA = G.2.1 21 := Option.some.inj (hfc.symm.trans (hK.1.2 1 _ rfl).2)
        have h0 := kk ls H1 locs (by show n0 ≤ σ.1 + 1; omega) hl (jarr_new hW hq1 z1 o1 rfl b1 (Or.inr (Or.inl ⟨hq2, rfl, hcA⟩))) (jS_new hS z1 o1)
        rw [e1, e2] at h0
        simp only [List.map_cons, jcv_new hW hq1] at h0
        exact h0
      | char =>
        have ha : a = 22 := by simpa using a3
        subst ha
        refine va_newaK (atype := .char) hx hb (hts _ jarr_in.2.2) rfl hd rfl hq3 hq4 (by show _ * 2 ≤ _; omega) hrm.1 hrm.2 rfl fun H1 cA b1 z1 o1 _ hfc => ?_
        have hcA : cA = G.2.1 22 := Option.some.inj (hfc.symm.trans (hK.1.2 2 _ rfl).2)
        have h0 := kk ls H1 locs (by show n0 ≤ σ.1 + 1; omega) hl (jarr_new hW hq1 z1 o1 rfl b1 (Or.inr (Or.inr (Or.inl ⟨hq2, rfl, hcA⟩)))) (jS_new hS z1 o1)
        rw [e1, e2] at h0
        simp only [List.map_cons, jcv_new hW hq1] at h0
        exact h0
      | _ => simp at a3
    · cases hs
  · cases hs
theorem jw_anewarray {z : Nat} (cx : jCx G X own cc nL ini p R s m args meth c) (hd : decode cc pc = .ok (.anewarray z, len)) (hi : jokI S own ini ret (pc, .anewarray z, len, (a, b, k, w), (iv, lv, sw)) = true) (hs : jstep X (pc, .anewarray z, len, (a, b, k, w), (iv, lv, sw)) pl st σ = some (.inl (pc', pl', st', σ')))
    (hrm : jcn n0 σ'.1 ≤ R.cells ∧ jsn n0 σ'.1 ≤ R.slots)
    (kk : jWc G nL n0 p l e R s m args below meth c Q pc' pl' st' σ') : jWc G nL n0 p l e R s m args below meth c Q pc pl st σ := by
  obtain ⟨hx, hb, hml, hown, hts, hK, hin, hfr, hlo⟩ := cx
  simp only [jokI, Bool.and_eq_true, beq_iff_eq] at hi
  obtain ⟨rfl, rfl, a3⟩ := hi
  simp only [jstep, jnar] at hs
  split at hs
  · next mm r =>
    split at hs
    · next hq =>
      obtain ⟨hq1, hq2, hq3, hq4⟩ := hq
      obtain ⟨rfl, rfl, rfl, rfl⟩ := jnx_eq hs
      intro ls H locs hn hl hW hS
      have e1 : jcn n0 (jnew σ).1 = jcn n0 σ.1 + 1 := jcn_1 hn
      have e2 : jsn n0 (jnew σ).1 = jsn n0 σ.1 + (jsh (σ.1 + 1)).2 := jsn_1 hn
      rw [e1, e2] at hrm
      have hsm := (jsh_ok (σ.1 + 1)).2.1
      rw [← hq4] at hsm hrm e2
      refine W.anew hx hb hown (hts _ (jW3_in a3)) (va_AO.use hK.2.2.2.2.2.2.2) rfl hd rfl hq3 (by omega) hrm.1 hrm.2 fun cA kA comp f1 f2 f3 f4 => ?_
      generalize hH1 : H.push ({ cls := cA, slots := Array.replicate mm.toNatClampNeg .null, vm := .none } : Cell) = H1
      have z1 : H1.size = H.size + 1 := by rw [← hH1, Array.size_push]
      have b1 : H1[H.size]? = some (arrV cA mm.toNatClampNeg (fun _ => .null)) := by rw [← hH1, Array.getElem?_push_size, ← arrV_new]
      have o1 : ∀ q : Nat, q < H.size → H1[q]? = H[q]? := fun q hq => by rw [← hH1, Array.getElem?_push, if_neg (Nat.ne_of_lt hq)]
      obtain ⟨kA', comp', -, -, -, g4⟩ := (hK.1.2 3 _ rfl).2
      have hcA : cA = G.2.1 23 := Option.some.inj (f1.symm.trans g4)
      have h0 := kk ls H1 locs (by show n0 ≤ σ.1 + 1; omega) hl (jarr_new (ty := .object "AndGuest$Standing") hW hq1 z1 o1 hq4 b1 (Or.inr (Or.inr (Or.inr ⟨hq2, ⟨_, rfl⟩, hcA⟩)))) (jS_new hS z1 o1)
      rw [e1, e2] at h0
      simp only [List.map_cons, jcv_new hW hq1] at h0
      exact h0
    · cases hs
  · cases hs
end JA
