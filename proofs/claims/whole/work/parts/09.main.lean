/-! The main induction: an answer of the pure interpreter is the machine's answer -/
theorem jcn_self (n : Nat) : jcn n n = 0 := by unfold jcn; omega
theorem jsn_self (n : Nat) : jsn n n = 0 := by unfold jsn; rw [Nat.sub_self]; rfl
theorem jMok_of {S : List jSg} {M : jM} (h : jMok S M) : plainFor M.1 = true ∧ Jvm.Cond.code M.1 M.2.1 M.2.2.1 M.2.2.2.1 ∈ jtb ∧ Jvm.Cond.initialized M.1.cls ∈ jtb ∧ (M.2.2.2.2.1.2.1 = true → Jvm.Cond.static M.1 ∈ jtb) ∧
    (M.2.2.2.2.1.2.1 = false → Jvm.Cond.instanceMethod M.1 ∈ jtb ∧ (M.1.name ≠ "<init>" → Jvm.Cond.selects M.1.cls M.1 M.1 ∈ jtb)) ∧ (M.1.cls ≠ "java/lang/invoke/MethodHandle" ∧ M.1.cls ≠ "java/lang/invoke/VarHandle") ∧
    (parseMethodDescriptor M.1.desc).map (fun d => d.parameters.length) = some M.2.2.2.2.1.1 ∧ M.2.2.1 ≤ 40 ∧ M.2.2.2.2.2.all (jokE S M.1.cls M.2.1 (M.1.name == "<init>") M.2.2.2.1) = true := by
  obtain ⟨q, h⟩ := h
  simp only [jokM, Bool.and_eq_true, decide_eq_true_eq] at h
  obtain ⟨h1, h2, h3, h4, h5, h6, h7, h8⟩ := h
  refine ⟨h1, jW3_in h2, jW3_in h3, fun hs => ?_, fun hs => ?_, h5, h6, h7, h8⟩
  · rw [if_pos hs] at h4
    exact jW3_in h4
  · rw [if_neg (by rw [hs]; decide)] at h4
    simp only [Bool.and_eq_true, Bool.or_eq_true, beq_iff_eq] at h4
    refine ⟨jW3_in h4.1, fun hn => ?_⟩
    rcases h4.2 with h | h
    · exact absurd h hn
    · exact jW3_in h
set_option maxHeartbeats 4000000 in
theorem jpx_ok {P : List jM} {X : jX} (G : jG) (l : Launch) (hP : ∀ M ∈ P, jMok (P.map jsig) M) : ∀ (n : Nat) {d : Nat} {es : List jE} {pc : Nat} {pl : jPL} {st : List Value} {σ : jS} {r : Option Value} {σ2 : jS}, px P X n d es pc pl st σ = some (r, σ2) →
    ∀ {p : Program} {e : Env} {R : Room} {s : State} {m : MethodId} {args : Array Value} {below : List Frame} {meth : Method} {c : Code} {Q : State → Prop} {own : String} {cc : ByteArray} {nL n0 : Nat} {ini : Bool} {ret : Option FieldType},
    jCx G X own cc nL ini p R s m args meth c → es.all (jokE (P.map jsig) own cc ini ret) = true → d + 1 ≤ R.frames ∧ 64 * (d + 1) ≤ R.locals → jcn n0 σ2.1 ≤ R.cells ∧ jsn n0 σ2.1 ≤ R.slots →
    (∀ (pc : Nat) (ins : Instr) (ls : Array Slot) (stk : List Value) (H : Heap) (locs : List Loc), decode cc pc = .ok (ins, 1) → jend G ret ins r stk → jWd G σ2 H → va_S (jA G) s.heap H locs → W p l e R s m args below meth c H locs (jcn n0 σ2.1) (jsn n0 σ2.1) Q (F0 m pc ls stk)) →
    jWc G nL n0 p l e R s m args below meth c Q pc pl st σ := by
  intro n
  induction n with
  | zero => intro d es pc pl st σ r σ2 h; simp [px] at h
  | succ n IH =>
    have hmet : ∀ {d : Nat} {M : jM} {vs : List Value} {σ σ1 : jS} {r1 : Option Value}, M ∈ P → (jent vs M.2.2.1).length = M.2.2.1 → px P X n d M.2.2.2.2.2 0 (jent vs M.2.2.1) [] σ = some (r1, σ1) →
        Met l M.1 (jwsM M) (jrm d (jcn σ.1 σ1.1) (jsn σ.1 σ1.1)) (jPc G X vs σ) (jQ G σ1 r1) (jcn σ.1 σ1.1) (jsn σ.1 σ1.1) (jA G) := by
      intro d M vs σ σ1 r1 hM hlen hpx
      obtain ⟨g1, g2, g3, g4, g5, g6, g7, g8, g9⟩ := jMok_of (hP M hM)
      refine jMetW (cc := M.2.1) (maxL := M.2.2.1) (ret := M.2.2.2.1) g1 rfl ?_
      intro p e s m args below meth c s₁ B hml hv
      obtain ⟨rfl, hK, hW⟩ := hv
      have hx := B.exec
      have hb := B.bytes
      have hr := B.returns
      have hts0 := atoms_spec (ws := jwsM M) B.pre
      have hts : ∀ w ∈ jtb, w.before (vs.map (jcv G)).toArray s = true := fun w hw => hts0 w (List.mem_cons_of_mem _ hw)
      have hown : s.vm.findClass M.1.cls = some m.cls := findClass_of_methodNamed B.named
      have hlocks := B.notSynchronized
      have hin : meth.name = M.1.name := (name_of_methodNamed B.named B.method).1
      have hS : va_S (jA G) s.heap s.heap [] := va_S.rf
      rw [lg_entry_eq]
      have h0 := IH hpx (p := p) (e := e) (R := (headSpec (jwsM M) (jrm d (jcn σ.1 σ1.1) (jsn σ.1 σ1.1))).room) (s := s) (m := m) (args := (vs.map (jcv G)).toArray) (below := below) (meth := meth) (c := c)
        (Q := MQ below (jQ G σ1 r1) (vs.map (jcv G)).toArray s (jcn σ.1 σ1.1) (jsn σ.1 σ1.1) (jA G)) (own := M.1.cls) (cc := M.2.1) (nL := M.2.2.1) (n0 := σ.1) (ini := (M.1.name == "<init>")) (ret := M.2.2.2.1)
        ⟨hx, hb, hml, hown, hts, hK, fun h => by rw [hin]; exact beq_iff_eq.mp h, by show 1 ≤ d + 1; omega, by show 20 ≤ 64 * (d + 1); omega⟩ g9 ⟨Nat.le_refl _, Nat.le_refl _⟩ ⟨Nat.le_refl _, Nat.le_refl _⟩
        (fun pc ins ls stk H locs hd he hW hS => by
          rcases he with ⟨rfl, v, rfl, rfl, he⟩ | ⟨rfl, v, rfl, rfl, he⟩ | ⟨rfl, v, rfl, rfl, he⟩ | ⟨rfl, rfl, rfl, he⟩
          · rcases he with he | ⟨he, hv⟩
            · exact W.iret hx hb (hr.trans he) (fun t ht _ => ⟨⟨rfl, by rw [ht]; exact hW⟩, hS.F ht⟩) hS.2.2 hd
            · exact W.zret hx hb (hr.trans he) (by rcases hv with rfl | rfl <;> rfl) (fun t ht _ => ⟨⟨rfl, by rw [ht]; exact hW⟩, hS.F ht⟩) hS.2.2 hd
          · exact W.lret hx hb (hr.trans he) (fun t ht _ => ⟨⟨rfl, by rw [ht]; exact hW⟩, hS.F ht⟩) hS.2.2 hd
          · obtain ⟨rt, hrt, hrt2⟩ : ∃ rt, M.2.2.2.1 = some rt ∧ ((∃ n, rt = .object n) ∨ ∃ t, rt = .array t) := by
              rcases he with ⟨n, he⟩ | ⟨t, he⟩
              · exact ⟨_, he, Or.inl ⟨n, rfl⟩⟩
              · exact ⟨_, he, Or.inr ⟨t, rfl⟩⟩
            exact W.aret hx hb (hr.trans hrt) hrt2 (by
              by_cases h0 : v = (0 : Nat)
              · subst h0; exact Or.inl rfl
              · exact Or.inr ⟨_, jcv_ref h0⟩) (fun t ht _ => ⟨⟨rfl, by rw [ht]; exact hW⟩, hS.F ht⟩) hS.2.2 hd
          · exact W.vret hx hb (hr.trans he) (fun t ht _ => ⟨⟨rfl, by rw [ht]; exact hW⟩, hS.F ht⟩) hS.2.2 hd)
      have h1 := h0 _ s.heap [] (Nat.le_refl _) (jent_ok G vs M.2.2.1 hlen) hW hS
      rw [jcn_self, jsn_self] at h1
      exact h1
    intro d es pc pl st σ r σ2 h p e R s m args below meth c Q own cc nL n0 ini ret cx hes hroom hrm hend
    have hmono := jpx_n h
    unfold px at h
    split at h
    · cases h
    · next E hE =>
      have hEm : E ∈ es := List.mem_of_find?_eq_some hE
      have hpc : E.1 = pc := by
        have := List.find?_some hE
        simpa using this
      subst hpc
      have hEok := List.all_eq_true.mp hes E hEm
      split at h
      · cases h
      · next pc' pl' st' σ' hst =>
        have h2 := jpx_n h
        exact jw_all cx hEok hst ⟨Nat.le_trans (jcn_mono h2) hrm.1, Nat.le_trans (jsn_mono h2) hrm.2⟩ (IH h cx hes hroom hrm hend)
      · next r' hst =>
        cases h
        obtain ⟨ins, hd, he⟩ := jstep_ret (G := G) hEok hst
        intro ls H locs hn hl hW hS
        exact hend _ ins ls _ H locs hd he hW hS
      · next mi vs rest hst =>
        split at h
        · cases h
        · next d' =>
          split at h
          · cases h
          · next M hMi =>
            split at h
            · next hlen =>
              split at h
              · cases h
              · next r1 σ1 hpx =>
                have hM : M ∈ P := List.mem_of_getElem? hMi
                have hm := hmet hM hlen hpx
                have hS1 := jpx_n hpx
                have hS2 := jpx_n h
                have hc := IH h cx hes hroom hrm hend
                obtain ⟨g1, g2, g3, g4, g5, g6, g7, g8, g9⟩ := jMok_of (hP M hM)
                obtain ⟨hx, hb, hml, hown, hts, hK, hin, hfr, hlo⟩ := cx
                have hgM : ∀ w ∈ jwsM M, w ∈ jtb := fun w hw => by
                  rcases List.mem_cons.mp hw with rfl | hw
                  · exact g2
                  · exact hw
                have hmi : (P.map jsig)[mi]? = some (jsig M) := by rw [List.getElem?_map, hMi]; rfl
                have hR : (jrm d' (jcn σ.1 σ1.1) (jsn σ.1 σ1.1)).frames + 1 ≤ R.frames ∧ 8 + (M.2.2.1 + 11) + (jrm d' (jcn σ.1 σ1.1) (jsn σ.1 σ1.1)).locals ≤ R.locals := by
                  constructor
                  · show d' + 1 + 1 ≤ _
                    omega
                  · show _ + 64 * (d' + 1) ≤ _
                    omega
                obtain ⟨z, hmi2, hcat, hcall⟩ := jstep_call hEok hst
                intro ls H locs hn hl hW hS
                have hcell : jcn n0 σ.1 + jcn σ.1 σ1.1 ≤ R.cells ∧ jsn n0 σ.1 + jsn σ.1 σ1.1 ≤ R.slots := by
                  rw [jcn_add hn hS1, jsn_add hn hS1]
                  exact ⟨Nat.le_trans (jcn_mono hS2) hrm.1, Nat.le_trans (jsn_mono hS2) hrm.2⟩
                have hback : ∀ (H1 : Heap) (locs1 : List Loc), jWd G σ1 H1 → va_S (jA G) s.heap H1 locs1 → W p l e R s m args below meth c H1 locs1 (jcn n0 σ.1 + jcn σ.1 σ1.1) (jsn n0 σ.1 + jsn σ.1 σ1.1) Q (F0 m (E.1 + 3) ls ((r1.map (jcv G)).toList ++ rest.map (jcv G))) := by
                  intro H1 locs1 hW1 hSS
                  have h9 := hc ls H1 locs1 (Nat.le_trans hn hS1) hl hW1 hSS
                  rw [jcn_add hn hS1, jsn_add hn hS1]
                  have e9 : (r1.toList ++ rest).map (jcv G) = (r1.map (jcv G)).toList ++ rest.map (jcv G) := by
                    cases r1 <;> simp
                  rw [e9] at h9
                  exact h9
                rcases hcall with ⟨hd, ⟨y, hy, y1, y2, y3⟩, hst2⟩ | ⟨o, As, hvs, hst2, y, hy, y1, y2, y3, q, q1, q2, hq, hcase⟩
                · rw [hmi] at hy
                  cases hy
                  have hG : GoodIn jtb (va_wsS own z M.1 (jwsM M)) := fun w hw => by
                    have : w ∈ jtb := by
                      simp only [va_wsS, List.cons_append, List.nil_append, List.mem_cons] at hw
                      rcases hw with rfl | rfl | rfl | hw
                      · exact y3
                      · exact g4 y1
                      · exact g3
                      · exact hgM w hw
                    exact ⟨this, jgood this⟩
                  have hrun := va_runS (e := e) (below := below) (meth := meth) (As := vs.map (jcv G)) (rest := rest.map (jcv G)) (g := F0 m E.1 ls (st.map (jcv G))) (cells := jcn n0 σ.1) (slots := jsn n0 σ.1) (locs := locs) ⟨hx, hb, hml, hown, hts⟩ hm (va_cwS vs.length hts hG rfl rfl rfl ⟨g6.1, g6.2, by rw [g7]; exact congrArg some y2⟩ hR) ⟨jPc_blind, jPc_at hK hW hS⟩ rfl (by simp) hl.1 (by rw [hst2]; simp) (lv_room (by rw [jcat_sum]; exact hcat)) hd hcell
                  exact j_back hrun hS (fun q h => h) hback
                · rw [hmi] at hy
                  cases hy
                  obtain ⟨o0, o1, o2⟩ := jcl_in hq (by omega) (by omega) (by omega) (by omega) hW.2.1
                  have hvm : vs.map (jcv G) = .ref (jad G o) :: As.map (jcv G) := by rw [hvs, List.map_cons, jcv_ref o0]
                  have hstk : st.map (jcv G) = (As.map (jcv G)).reverse ++ .ref (jad G o) :: rest.map (jcv G) := by
                    rw [hst2, List.map_append, List.map_cons, jcv_ref o0, List.map_reverse]
                  have hpre : ∀ U : State, U.heap = H → s.WarmedH U.vm → jPc G X vs σ (Value.ref (jad G o) :: As.map (jcv G)).toArray U := by
                    rw [← hvm]
                    exact jPc_at hK hW hS
                  rcases hcase with ⟨hd, hcls, hnm⟩ | ⟨hd, hnm, hnone⟩
                  · have he := jwl_at G o0 o1 hW.2.1
                    rw [jcel_obj o2 q2] at he
                    have hrec := va_recv hK.1 hW.2.2 (jcls_at (show q - 1 < 12 by omega)) he
                    have hG : GoodIn jtb (wsV own z M.1.cls M.1 (jwsM M)) := fun w hw => by
                      have : w ∈ jtb := by
                        simp only [wsV, List.cons_append, List.nil_append, List.mem_cons] at hw
                        rcases hw with rfl | rfl | rfl | rfl | hw
                        · exact y3
                        · exact (g5 y1).1
                        · exact (g5 y1).2 hnm
                        · exact g3
                        · exact hgM w hw
                      exact ⟨this, jgood this⟩
                    have hcls' : M.1.cls = jC (q - 1) := hcls
                    have hrun := va_runV (e := e) (below := below) (meth := meth) (As := As.map (jcv G)) (rest := rest.map (jcv G)) (g := F0 m E.1 ls (st.map (jcv G))) (cells := jcn n0 σ.1) (slots := jsn n0 σ.1) (locs := locs) ⟨hx, hb, hml, hown, hts⟩ hm (cwV As.length hts hG rfl rfl rfl ⟨rfl, g6.1, g6.2, by rw [g7]; exact congrArg some y2⟩ hR) ⟨jPc_blind, by rw [hcls']; exact hrec, hpre⟩ rfl (by simp) hl.1 hstk (lv_room (by rw [jcat_sum]; exact hcat)) hd hcell
                    exact j_back hrun hS (fun q h => h) hback
                  · have hG : GoodIn jtb (jwsM M) := fun w hw => ⟨hgM w hw, jgood (hgM w hw)⟩
                    have hnone' : M.2.2.2.1 = none := hnone
                    have hrun := va_runI (e := e) (below := below) (meth := meth) (As := As.map (jcv G)) (rest := rest.map (jcv G)) (g := F0 m E.1 ls (st.map (jcv G))) (cells := jcn n0 σ.1) (slots := jsn n0 σ.1) (locs := locs) (bytes := M.2.1) (maxL := M.2.2.1) ⟨hx, hb, hml, hown, hts⟩ hm (cwI As.length hts hG (ws' := jtb) (by unfold jwsM; rw [hnone']) rfl rfl (hts _ g3) (hts _ y3) (hts _ (g5 y1).1) hnm ⟨g6.1, g6.2, by rw [g7]; exact congrArg some y2⟩ hR) ⟨jPc_blind, hpre⟩ rfl (by simp) hl.1 hstk (lv_room (by rw [jcat_sum]; exact hcat)) hd hcell
                    exact j_back hrun hS (fun q h => h) hback
            · cases h
