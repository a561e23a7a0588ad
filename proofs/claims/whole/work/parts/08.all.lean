/-! The interpreter is sound: all steps, calls and returns -/
section JU
variable {p : Program} {l : Launch} {e : Env} {R : Room} {s : State} {m : MethodId} {args : Array Value} {below : List Frame} {meth : Method} {c : Code} {Q : State → Prop}
variable {G : jG} {X : jX} {own : String} {cc : ByteArray} {nL n0 : Nat} {ini : Bool} {S : List jSg} {ret : Option FieldType} {P : List jM}
variable {pc : Nat} {pl pl' : jPL} {st st' : List Value} {σ σ' σ1 σ2 : jS} {pc' len a b k w : Nat} {iv : Int32} {lv : Int64} {sw : List (Int32 × Nat)} {ins : Instr} {r : Option Value} {H : Heap} {locs : List Loc} {cells slots mc ms : Nat} {ls : Array Slot} {rest st0 : List Value} {aa : Array Value} {free : Addr → Prop}
theorem jcn_mono {n0 x y : Nat} (h : x ≤ y) : jcn n0 x ≤ jcn n0 y := by unfold jcn; omega
theorem jsn_mono {n0 x : Nat} : ∀ {y : Nat}, x ≤ y → jsn n0 x ≤ jsn n0 y := by
  intro y
  induction y with
  | zero => intro h; rw [show x = 0 by omega]; exact Nat.le_refl _
  | succ y ih =>
    intro h
    by_cases hx : x = y + 1
    · rw [hx]; exact Nat.le_refl _
    · refine Nat.le_trans (ih (by omega)) ?_
      by_cases hn : n0 ≤ y
      · rw [jsn_1 hn]; exact Nat.le_add_right _ _
      · have : jsn n0 y = 0 := by unfold jsn; rw [show y - n0 = 0 by omega]; rfl
        omega
theorem jcn_add {n0 x y : Nat} (h1 : n0 ≤ x) (h2 : x ≤ y) : jcn n0 x + jcn x y = jcn n0 y := by unfold jcn; omega
theorem jsn_add {n0 x : Nat} (h1 : n0 ≤ x) : ∀ {y : Nat}, x ≤ y → jsn n0 x + jsn x y = jsn n0 y := by
  intro y
  induction y with
  | zero =>
    intro h
    have : x = 0 := by omega
    subst this
    simp [jsn]
  | succ y ih =>
    intro h
    by_cases hx : x = y + 1
    · rw [hx]
      have : jsn (y + 1) (y + 1) = 0 := by unfold jsn; rw [show y + 1 - (y + 1) = 0 by omega]; rfl
      rw [this]; rfl
    · rw [jsn_1 (show n0 ≤ y by omega), jsn_1 (show x ≤ y by omega), ← ih (by omega)]
      omega
theorem jw_invokespecial {z : Nat} (cx : jCx G X own cc nL ini p R s m args meth c) (hd : decode cc pc = .ok (.invokespecial z, len)) (hi : jokI S own ini ret (pc, .invokespecial z, len, (a, b, k, w), (iv, lv, sw)) = true) (hs : jstep X (pc, .invokespecial z, len, (a, b, k, w), (iv, lv, sw)) pl st σ = some (.inl (pc', pl', st', σ')))
    (kk : jWc G nL n0 p l e R s m args below meth c Q pc' pl' st' σ') : jWc G nL n0 p l e R s m args below meth c Q pc pl st σ := by
  obtain ⟨hx, hb, hml, hown, hts, hK, hin, hfr, hlo⟩ := cx
  simp only [jokI, Bool.and_eq_true, Bool.or_eq_true, beq_iff_eq] at hi
  obtain ⟨rfl, hi⟩ := hi
  simp only [jstep, jcall] at hs
  split at hs
  · split at hs <;> cases hs
  · rcases hi with ⟨-, hi⟩ | ⟨hi, -⟩
    · split at hs
      · next o r =>
        split at hs
        · cases hs
        · next hq =>
          obtain ⟨rfl, rfl, rfl, rfl⟩ := jnx_eq hs
          have o0 : o ≠ (0 : Nat) := fun z => hq (Or.inl z)
          have hq2 : (st'.map fun v => v.category).sum ≤ 8 := Decidable.not_not.mp (fun z => hq (Or.inr z))
          intro ls H locs hn hl hW hS
          have h0 := kk ls H locs hn hl hW hS
          simp only [List.map_cons, jcv_ref o0]
          refine W.objInit hx hb hown (hts _ (jW3_in hi)) (hts _ jObj.1) (hts _ jObj.2) rfl (by rw [hml]; exact hl.1) rfl hd hfr ?_ ?_
          · have h9 := lv_room (m := m) (pc := pc) (ls := ls) (rest := .ref (jad G o) :: st'.map (jcv G)) (st := st'.map (jcv G)) (by rw [jcat_sum]; exact hq2)
            omega
          · exact h0
      · cases hs
    · simp only [decide_eq_true_eq] at hi
      omega
  · split at hs
    · split at hs <;> cases hs
    · cases hs
theorem jw_invokevirtual {z : Nat} (hi : jokI S own ini ret (pc, .invokevirtual z, len, (a, b, k, w), (iv, lv, sw)) = true) (hs : jstep X (pc, .invokevirtual z, len, (a, b, k, w), (iv, lv, sw)) pl st σ = some (.inl (pc', pl', st', σ'))) : False := by
  simp only [jokI, Bool.and_eq_true, decide_eq_true_eq, beq_iff_eq] at hi
  obtain ⟨-, ⟨h1, h2⟩, -⟩ := hi
  simp only [jstep, jcall] at hs
  split at hs
  · omega
  · omega
  · split at hs
    · split at hs <;> cases hs
    · cases hs
theorem jw_invokestatic {z : Nat} (hi : jokI S own ini ret (pc, .invokestatic z, len, (a, b, k, w), (iv, lv, sw)) = true) (hs : jstep X (pc, .invokestatic z, len, (a, b, k, w), (iv, lv, sw)) pl st σ = some (.inl (pc', pl', st', σ'))) : False := by
  simp only [jokI, Bool.and_eq_true, beq_iff_eq] at hi
  obtain ⟨-, rfl, -⟩ := hi
  simp only [jstep, jcall] at hs
  split at hs <;> cases hs
/-- any step that is no call and no return -/
theorem jw_all {E : jE} (cx : jCx G X own cc nL ini p R s m args meth c) (hE : jokE S own cc ini ret E = true) (hs : jstep X E pl st σ = some (.inl (pc', pl', st', σ'))) (hrm : jcn n0 σ'.1 ≤ R.cells ∧ jsn n0 σ'.1 ≤ R.slots)
    (kk : jWc G nL n0 p l e R s m args below meth c Q pc' pl' st' σ') : jWc G nL n0 p l e R s m args below meth c Q E.1 pl st σ := by
  obtain ⟨pc, ins, len, ⟨a, b, k, w⟩, ⟨iv, lv, sw⟩⟩ := E
  obtain ⟨hd, hi⟩ := jokE_of hE
  cases ins with
  | iload_n => exact jw_iload_n cx hd hi hs kk
  | iload => exact jw_iload cx hd hi hs kk
  | lload_n => exact jw_lload_n cx hd hi hs kk
  | lload => exact jw_lload cx hd hi hs kk
  | aload_n => exact jw_aload_n cx hd hi hs kk
  | aload => exact jw_aload cx hd hi hs kk
  | istore_n => exact jw_istore_n cx hd hi hs kk
  | istore => exact jw_istore cx hd hi hs kk
  | lstore_n => exact jw_lstore_n cx hd hi hs kk
  | lstore => exact jw_lstore cx hd hi hs kk
  | astore_n => exact jw_astore_n cx hd hi hs kk
  | astore => exact jw_astore cx hd hi hs kk
  | iinc => exact jw_iinc cx hd hi hs kk
  | iconst => exact jw_iconst cx hd hi hs kk
  | bipush => exact jw_bipush cx hd hi hs kk
  | sipush => exact jw_sipush cx hd hi hs kk
  | lconst => exact jw_lconst cx hd hi hs kk
  | ldc => exact jw_ldc cx hd hi hs kk
  | ldc_w => exact jw_ldc_w cx hd hi hs kk
  | ldc2_w => exact jw_ldc2_w cx hd hi hs kk
  | iadd => exact jw_iadd cx hd hi hs kk
  | isub => exact jw_isub cx hd hi hs kk
  | imul => exact jw_imul cx hd hi hs kk
  | iand => exact jw_iand cx hd hi hs kk
  | ior => exact jw_ior cx hd hi hs kk
  | ixor => exact jw_ixor cx hd hi hs kk
  | ishl => exact jw_ishl cx hd hi hs kk
  | ishr => exact jw_ishr cx hd hi hs kk
  | iushr => exact jw_iushr cx hd hi hs kk
  | ladd => exact jw_ladd cx hd hi hs kk
  | lsub => exact jw_lsub cx hd hi hs kk
  | lmul => exact jw_lmul cx hd hi hs kk
  | land => exact jw_land cx hd hi hs kk
  | lxor => exact jw_lxor cx hd hi hs kk
  | idiv => exact jw_idiv cx hd hi hs kk
  | irem => exact jw_irem cx hd hi hs kk
  | ldiv => exact jw_ldiv cx hd hi hs kk
  | lrem => exact jw_lrem cx hd hi hs kk
  | lcmp => exact jw_lcmp cx hd hi hs kk
  | i2l => exact jw_i2l cx hd hi hs kk
  | l2i => exact jw_l2i cx hd hi hs kk
  | ifCond => exact jw_ifCond cx hd hi hs kk
  | if_icmp => exact jw_if_icmp cx hd hi hs kk
  | goto => exact jw_goto cx hd hi hs kk
  | tableswitch => exact jw_tableswitch cx hd hi hs kk
  | lookupswitch => exact jw_lookupswitch cx hd hi hs kk
  | dup => exact jw_dup cx hd hi hs kk
  | dup2 => exact jw_dup2 cx hd hi hs kk
  | pop => exact jw_pop cx hd hi hs kk
  | getfield => exact jw_getfield cx hd hi hs kk
  | putfield => exact jw_putfield cx hd hi hs kk
  | getstatic => exact jw_getstatic cx hd hi hs kk
  | arraylength => exact jw_arraylength cx hd hi hs kk
  | iaload => exact jw_iaload cx hd hi hs kk
  | laload => exact jw_laload cx hd hi hs kk
  | caload => exact jw_caload cx hd hi hs kk
  | aaload => exact jw_aaload cx hd hi hs kk
  | iastore => exact jw_iastore cx hd hi hs kk
  | lastore => exact jw_lastore cx hd hi hs kk
  | castore => exact jw_castore cx hd hi hs kk
  | aastore => exact jw_aastore cx hd hi hs kk
  | new => exact jw_new cx hd hi hs hrm kk
  | newarray => exact jw_newarray cx hd hi hs hrm kk
  | anewarray => exact jw_anewarray cx hd hi hs hrm kk
  | invokespecial => exact jw_invokespecial cx hd hi hs kk
  | invokevirtual => exact (jw_invokevirtual hi hs).elim
  | invokestatic => exact (jw_invokestatic hi hs).elim
  | ireturn => simp only [jstep, jret] at hs; split at hs <;> (first | cases hs | (split at hs <;> cases hs))
  | lreturn => simp only [jstep, jretl] at hs; split at hs <;> cases hs
  | areturn => simp only [jstep, jreta] at hs; split at hs <;> cases hs
  | return_ => simp only [jstep, jretv] at hs; split at hs <;> cases hs
  | _ => exact absurd (show (none : Option jO) = some _ from hs) (by simp)
def jend (G : jG) (ret : Option FieldType) (ins : Instr) (r : Option Value) (stk : List Value) : Prop :=
  (ins = .ireturn ∧ ∃ v, r = some (.int v) ∧ stk = [.int v] ∧ (ret = some .int ∨ (ret = some .boolean ∧ (v = 0 ∨ v = 1)))) ∨
  (ins = .lreturn ∧ ∃ v, r = some (.long v) ∧ stk = [.long v] ∧ ret = some .long) ∨
  (ins = .areturn ∧ ∃ v, r = some (.ref v) ∧ stk = [jcv G (.ref v)] ∧ ((∃ n, ret = some (.object n)) ∨ ∃ t, ret = some (.array t))) ∨
  (ins = .return_ ∧ r = none ∧ stk = [] ∧ ret = none)
theorem jstep_ret {E : jE} (hE : jokE S own cc ini ret E = true) (hs : jstep X E pl st σ = some (.inr (.inl r))) : ∃ ins, decode cc E.1 = .ok (ins, 1) ∧ jend G ret ins r (st.map (jcv G)) := by
  obtain ⟨pc, ins, len, ⟨a, b, k, w⟩, ⟨iv, lv, sw⟩⟩ := E
  obtain ⟨hd, hi⟩ := jokE_of hE
  cases ins with
  | ireturn =>
    simp only [jokI, Bool.and_eq_true, Bool.or_eq_true, decide_eq_true_eq, beq_iff_eq] at hi
    obtain ⟨rfl, hi⟩ := hi
    simp only [jstep, jret] at hs
    split at hs
    · next v =>
      split at hs
      · next hq =>
        simp only [Option.some.injEq, Sum.inr.injEq, Sum.inl.injEq] at hs
        subst hs
        refine ⟨_, hd, Or.inl ⟨rfl, v, rfl, rfl, ?_⟩⟩
        rcases hi with ⟨h1, h2⟩ | ⟨h1, h2⟩
        · exact Or.inl h2
        · rcases hq with h | h
          · omega
          · exact Or.inr ⟨h2, h.2⟩
      · cases hs
    · cases hs
  | lreturn =>
    simp only [jokI, Bool.and_eq_true, decide_eq_true_eq, beq_iff_eq] at hi
    obtain ⟨rfl, hi⟩ := hi
    simp only [jstep, jretl] at hs
    split at hs
    · next v =>
      simp only [Option.some.injEq, Sum.inr.injEq, Sum.inl.injEq] at hs
      subst hs
      exact ⟨_, hd, Or.inr (Or.inl ⟨rfl, v, rfl, rfl, hi⟩)⟩
    · cases hs
  | areturn =>
    simp only [jokI, Bool.and_eq_true, beq_iff_eq] at hi
    obtain ⟨rfl, hi⟩ := hi
    simp only [jstep, jreta] at hs
    split at hs
    · next v =>
      simp only [Option.some.injEq, Sum.inr.injEq, Sum.inl.injEq] at hs
      subst hs
      refine ⟨_, hd, Or.inr (Or.inr (Or.inl ⟨rfl, v, rfl, rfl, ?_⟩))⟩
      split at hi
      · exact Or.inl ⟨_, rfl⟩
      · exact Or.inr ⟨_, rfl⟩
      · cases hi
    · cases hs
  | return_ =>
    simp only [jokI, Bool.and_eq_true, decide_eq_true_eq, beq_iff_eq] at hi
    obtain ⟨rfl, hi⟩ := hi
    simp only [jstep, jretv] at hs
    split at hs
    · simp only [Option.some.injEq, Sum.inr.injEq, Sum.inl.injEq] at hs
      subst hs
      exact ⟨_, hd, Or.inr (Or.inr (Or.inr ⟨rfl, rfl, rfl, hi⟩))⟩
    · cases hs
  | _ =>
    exfalso
    simp only [jstep, jldi, jldl, jlda, jsti, jstl, jsta, jinc, jo2, jo2d, jL2, jL2d, jlc, jcv1, jcv2, jif1, jif2, jsw, jdup, jdup2, jpop, jget, jput, jgst, jal, jiald, jlald, jcald, jaald, jiast, jlast, jcast, jaast, jnob, jnar, jcall, jnx, jgo] at hs <;> (repeat' split at hs) <;> first | (cases hs; done) | (simp at hs)
/-- a call: what it is -/
theorem jstep_call {E : jE} {mi : Nat} {vs : List Value} (hE : jokE S own cc ini ret E = true) (hs : jstep X E pl st σ = some (.inr (.inr (mi, vs, rest)))) : ∃ z, mi = E.2.2.2.1.1 ∧ (rest.map fun v => v.category).sum ≤ 8 ∧
    ((decode cc E.1 = .ok (.invokestatic z, 3) ∧ (∃ y, S[mi]? = some y ∧ y.2.2.2.2.2.1 = true ∧ y.2.2.2.2.1 = vs.length ∧ Jvm.Cond.methodLink own z y.1 ∈ jtb) ∧ st = vs.reverse ++ rest) ∨
     (∃ o As, vs = .ref o :: As ∧ st = As.reverse ++ .ref o :: rest ∧ ∃ y, S[mi]? = some y ∧ y.2.2.2.2.2.1 = false ∧ y.2.2.2.2.1 = As.length ∧ Jvm.Cond.methodLink own z y.1 ∈ jtb ∧ ∃ q, 1 ≤ q ∧ q ≤ 12 ∧ jcl σ.1 o = q ∧
       ((decode cc E.1 = .ok (.invokevirtual z, 3) ∧ y.1.cls = jC (q - 1) ∧ y.1.name ≠ "<init>") ∨ (decode cc E.1 = .ok (.invokespecial z, 3) ∧ y.1.name = "<init>" ∧ y.2.2.2.1 = none)))) := by
  obtain ⟨pc, ins, len, ⟨a, b, k, w⟩, ⟨iv, lv, sw⟩⟩ := E
  obtain ⟨hd, hi⟩ := jokE_of hE
  cases ins with
  | invokestatic z =>
    simp only [jokI, Bool.and_eq_true, beq_iff_eq] at hi
    obtain ⟨rfl, rfl, hi⟩ := hi
    simp only [jstep, jcall] at hs
    split at hs
    · next hq =>
      simp only [Option.some.injEq, Sum.inr.injEq, Prod.mk.injEq] at hs
      obtain ⟨rfl, rfl, rfl⟩ := hs
      split at hi
      · next y hy =>
        simp only [Bool.and_eq_true, beq_iff_eq] at hi
        refine ⟨z, rfl, hq.2, Or.inl ⟨hd, ⟨y, hy, hi.1, ?_, jW3_in hi.2.2⟩, ?_⟩⟩
        · rw [hi.2.1, List.length_reverse, List.length_take]; omega
        · rw [List.reverse_reverse, List.take_append_drop]
      · cases hi
    · cases hs
  | invokevirtual z =>
    simp only [jokI, Bool.and_eq_true, decide_eq_true_eq, beq_iff_eq] at hi
    obtain ⟨rfl, ⟨k1, k2⟩, hi⟩ := hi
    simp only [jstep, jcall] at hs
    split at hs
    · omega
    · omega
    · split at hs
      · next o r hdr =>
        split at hs
        · next hq =>
          simp only [Option.some.injEq, Sum.inr.injEq, Prod.mk.injEq] at hs
          obtain ⟨rfl, rfl, rfl⟩ := hs
          split at hi
          · next y hy =>
            simp only [Bool.and_eq_true, beq_iff_eq, decide_eq_true_eq, Bool.not_eq_true'] at hi
            obtain ⟨i1, i2, i3, i4, i5⟩ := hi
            have hb : b < st.length := by
              rcases Nat.lt_or_ge b st.length with h | h
              · exact h
              · rw [List.drop_eq_nil_of_le h] at hdr; cases hdr
            refine ⟨z, rfl, hq.2, Or.inr ⟨o, _, rfl, ?_, y, hy, i1, ?_, jW3_in i5, k, k1, k2, hq.1, Or.inl ⟨hd, i3, i4⟩⟩⟩
            · rw [List.reverse_reverse, ← hdr, List.take_append_drop]
            · rw [i2, List.length_reverse, List.length_take]; omega
          · cases hi
        · cases hs
      · cases hs
  | invokespecial z =>
    simp only [jokI, Bool.and_eq_true, Bool.or_eq_true, beq_iff_eq] at hi
    obtain ⟨rfl, hi⟩ := hi
    simp only [jstep, jcall] at hs
    rcases hi with ⟨rfl, -⟩ | ⟨hk, hi⟩
    · split at hs
      · omega
      · split at hs
        · split at hs
          · cases hs
          · simp [jnx] at hs
        · cases hs
      · simp_all
    · simp only [decide_eq_true_eq] at hk
      split at hs
      · omega
      · omega
      · split at hs
        · next o r hdr =>
          split at hs
          · next hq =>
            simp only [Option.some.injEq, Sum.inr.injEq, Prod.mk.injEq] at hs
            obtain ⟨rfl, rfl, rfl⟩ := hs
            split at hi
            · next y hy =>
              simp only [Bool.and_eq_true, beq_iff_eq, decide_eq_true_eq, Bool.not_eq_true'] at hi
              obtain ⟨i1, i2, i3, i4, i5⟩ := hi
              have hb : b < st.length := by
                rcases Nat.lt_or_ge b st.length with h | h
                · exact h
                · rw [List.drop_eq_nil_of_le h] at hdr; cases hdr
              refine ⟨z, rfl, hq.2, Or.inr ⟨o, _, rfl, ?_, y, hy, i1, ?_, jW3_in i5, k, hk.1, hk.2, hq.1, Or.inr ⟨hd, i3, i4⟩⟩⟩
              · rw [List.reverse_reverse, ← hdr, List.take_append_drop]
              · rw [i2, List.length_reverse, List.length_take]; omega
            · cases hi
          · cases hs
        · cases hs
  | _ =>
    exfalso
    simp only [jstep, jldi, jldl, jlda, jsti, jstl, jsta, jinc, jo2, jo2d, jL2, jL2d, jlc, jcv1, jcv2, jif1, jif2, jsw, jdup, jdup2, jpop, jget, jput, jgst, jal, jiald, jlald, jcald, jaald, jiast, jlast, jcast, jaast, jnob, jnar, jret, jretl, jreta, jretv, jnx, jgo] at hs <;> (repeat' split at hs) <;> first | (cases hs; done) | (simp at hs)
end JU
