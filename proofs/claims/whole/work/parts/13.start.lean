/-! The start: what the Statement gives makes the interpreter's world -/
abbrev jflat : List Jvm.Cond := flatC (Jvm.Cond.and given_1 narrow_1)
def jx_ex : List Nat := [4, 8, 12, 16, 20, 60, 64, 68, 72, 76, 80, 84, 112, 116, 120, 96, 100, 104, 108, 160, 156, 148, 152, 88, 92, 124, 128, 132, 136, 140, 144]
def jx_co : List Nat := [6, 10, 14, 18, 22, 62, 66, 70, 74, 78, 82, 86, 114, 118, 122, 98, 102, 106, 110, 162, 158, 150, 154, 90, 94, 126, 130, 134, 138, 142, 146]
def jx_ow : List Nat := [7, 11, 15, 19, 23, 63, 67, 71, 75, 79, 83, 87, 115, 119, 123, 99, 103, 107, 111, 163, 159, 151, 155, 91, 95, 127, 131, 135, 139, 143, 147]
def jx_el : List Nat := [29, 30, 31, 32, 33, 34, 35, 36, 37, 38, 39, 40, 41, 42, 43, 44, 45, 46, 47, 48, 49, 50, 51, 52, 53, 54, 55, 56, 57, 58, 59]
def jx_ls : List Nat := [565, 587, 589, 591, 609, 639, 641, 643, 645, 647, 657, 659, 732, 734, 736, 720, 724, 726, 728, 1236, 1234, 1227, 1229, 706, 712, 1202, 1204, 1206, 1208, 1210, 1212]
abbrev jst (i : Nat) : Jvm.Term := .static "AndGuest$Word" (jnm i) "LAndGuest$Word;"
abbrev jstW : Jvm.Term := .static "AndGuest$Word" "WORDS" "[LAndGuest$Word;"
theorem jx_ex_ok : (List.range 31).all (fun i => decide (jflat[jx_ex.getD i 0]? = some (.exactly (jst i) "AndGuest$Word"))) = true := by decide +kernel
theorem jx_co_ok : (List.range 31).all (fun i => decide (jflat[jx_co.getD i 0]? = some (.eq (.field (jst i) "AndGuest$Word" "code" "I") (.int (jwcode.getD i 0))))) = true := by decide +kernel
theorem jx_ow_ok : (List.range 31).all (fun i => decide (jflat[jx_ow.getD i 0]? = some (.eq (.field (jst i) "AndGuest$Word" "own" "Z") (.int (jwown.getD i 0))))) = true := by decide +kernel
theorem jx_el_ok : (List.range 31).all (fun i => decide (jflat[jx_el.getD i 0]? = some (.eq (.elem jstW (.int (Int32.ofNat i))) (jst i)))) = true := by decide +kernel
theorem jx_ls_ok : (List.range 31).all (fun i => decide (lw_tbl[jx_ls.getD i 0]? = some (.laysStatic "AndGuest$Word" (jnm i) "LAndGuest$Word;"))) = true := by decide +kernel
theorem jx_aw : jflat[26]? = some (.arrayOf jstW (.object "AndGuest$Word")) := by decide +kernel
theorem jx_ln : jflat[27]? = some (.eq (.length jstW) (.int 31)) := by decide +kernel
theorem jx_wx : jflat[25]? = some (.exactly jstW "[LAndGuest$Word;") := by decide +kernel
theorem jx_lw : lw_tbl[632]? = some (.laysStatic "AndGuest$Word" "WORDS" "[LAndGuest$Word;") := by decide +kernel
theorem jx_iw : lw_tbl[135]? = some (.initialized "AndGuest$Word") := by decide +kernel
theorem jx_ai : lw_tbl[161]? = some (.arrayClass .int) := by decide +kernel
theorem jx_al : lw_tbl[282]? = some (.arrayClass .long) := by decide +kernel
theorem jx_ac : lw_tbl[1748]? = some (.arrayClass .char) := by decide +kernel
theorem jx_ao : lw_tbl[254]? = some (.arrayOver (.object "AndGuest$Standing")) := by decide +kernel
theorem jarr_of {args : Array Value} {s : State} {ty : FieldType} (h : (Jvm.Cond.arrayClass ty).before args s = true) (hty : ∀ C, ty ≠ .object C) : ∃ cA : ClassId, ArrOfT s cA ty ∧ va_RA s cA ty := by
  obtain ⟨cA, kA, comp, h1, h2, h3⟩ := Cond.arrayClass_spec h
  refine ⟨cA, fun n z => ⟨fun k h => (by cases h), kA, h2, comp, h3⟩, ?_⟩
  cases ty with
  | object C => exact absurd rfl (hty C)
  | _ => exact h1
theorem jarr_over {args : Array Value} {s : State} {C : String} (h : (Jvm.Cond.arrayOver (.object C)).before args s = true) : ∃ cA : ClassId, ArrOfT s cA (.object C) ∧ va_RA s cA (.object C) := by
  obtain ⟨comp, c, k, h1, h2, h3, h4, h5⟩ := Cond.arrayOver_spec h
  exact ⟨c, fun n z => ⟨fun k h => (by cases h), k, h3, comp, h4⟩, k, comp, h3, h4, h1, h5⟩
theorem jfield {args : Array Value} {s : State} {t : Jvm.Term} {a : Nat} {o n d : String} {z : Int32} {A : Nat → Prop} (ht : t.eval args s none [] s = some (.ref a)) (h : (Jvm.Cond.eq (.field t o n d) (.int z)).before args s = true) (hA : ∀ a : Nat, a < s.heap.size → ¬ A a) : va_OF o n d (.int z) a A s s.heap := by
  have hv := va_eqt h
  cases hfo : s.fieldFound? o n d with
  | none =>
    rw [va_fe ht] at hv
    simp [State.fieldOf?, State.fieldNamed?, hfo] at hv
  | some x =>
    obtain ⟨cf, k, fi, f⟩ := x
    obtain ⟨g1, cell, g2, g3, -, -, g6⟩ := Term.field_spec hfo ht hv
    exact ⟨cf, k, fi, f, cell, hfo, g1, g2, g3, g6, hA _ (Array.getElem?_eq_some_iff.mp g2).1⟩
theorem jinitK {s : State} {b L : Nat} {xs : Nat → Int32} (hts : ∀ w ∈ lw_tbl, w.before #[Value.ref b] s = true) (hg : (Jvm.Cond.and given_1 narrow_1).before #[Value.ref b] s = true) (hX : va_X b L xs s s.heap) (hb : b < s.heap.size) :
    ∃ G : jG, G.2.2.1 = s.heap.size ∧ G.2.2.2.2.2 = b ∧ jK G (L, xs) s := by
  have hfl : ∀ {i : Nat} {w : Jvm.Cond}, jflat[i]? = some w → w.before #[Value.ref b] s = true := fun h => flat_of_before _ hg _ (List.mem_of_getElem? h)
  have htb : ∀ {i : Nat} {w : Jvm.Cond}, lw_tbl[i]? = some w → w.before #[Value.ref b] s = true := fun h => hts _ (List.mem_of_getElem? h)
  have hjt : ∀ w ∈ jtb, w.before #[Value.ref b] s = true := fun w hw => hts w (List.mem_filter.mp hw).1
  have hA : ∀ a : Nat, a < s.heap.size → ¬ (fun q : Nat => s.heap.size ≤ q) a := fun a h => Nat.not_le.mpr h
  have hcl : ∀ c : Nat, ∃ q : ClassId × (Nat → Nat), c < 12 → u_Kn s (jC c) (jF c) (jN c) q.1 q.2 := by
    intro c
    by_cases hc : c < 12
    · obtain ⟨cC, iS, hk⟩ := u_known (C := jC c) (T := jF c) (N := jN c) (n := jN c) hjt (jws hc) (hjt _ (jinst hc))
      exact ⟨(cC, iS), fun _ => hk⟩
    · exact ⟨(0, fun _ => 0), fun h => absurd h hc⟩
  obtain ⟨fc, hfc⟩ := Classical.axiomOfChoice hcl
  obtain ⟨c20, k20, r20⟩ := jarr_of (htb jx_ai) (fun C h => by cases h)
  obtain ⟨c21, k21, r21⟩ := jarr_of (htb jx_al) (fun C h => by cases h)
  obtain ⟨c22, k22, r22⟩ := jarr_of (htb jx_ac) (fun C h => by cases h)
  obtain ⟨c23, k23, r23⟩ := jarr_over (htb jx_ao)
  have hae : ∀ i : Nat, ∃ t : Nat, i < 31 → (jst i).eval #[Value.ref b] s none [] s = some (.ref t) := by
    intro i
    by_cases hi : i < 31
    · obtain ⟨a, c, cell, k, q1, -⟩ := Cond.exactly_spec (hfl (of_decide_eq_true (jall jx_ex_ok hi)))
      exact ⟨a, fun _ => q1⟩
    · exact ⟨0, fun h => absurd h hi⟩
  obtain ⟨ae, hae⟩ := Classical.axiomOfChoice hae
  obtain ⟨aw, -, -, -, hwv, -⟩ := Cond.exactly_spec (hfl jx_wx)
  have hwl := va_eqt (hfl jx_ln)
  have hel : ∀ j : Nat, j < 31 → (Jvm.Term.elem jstW (.int (Int32.ofNat j))).eval #[Value.ref b] s none [] s = some (.ref (ae j)) := by
    intro j hj
    obtain ⟨y, y1, y2⟩ := Cond.eq_one (show (Jvm.Cond.eq (.elem jstW (.int (Int32.ofNat j))) (jst j)).holds #[Value.ref b] s none s [] = true from hfl (of_decide_eq_true (jall jx_el_ok hj)))
    rw [hae j hj] at y2
    rw [y1, y2]
  obtain ⟨aw', hwv', hT⟩ := va_Tof (A := fun q : Nat => s.heap.size ≤ q) (N := 31) (f := fun j => .ref (ae j)) (by decide) (hfl jx_aw) hwl hel hA
  have haw : aw' = aw := by
    have := hwv'.symm.trans hwv
    cases this
    rfl
  subst haw
  refine ⟨((fun c => (fc c).1, fun c => (fc c).2), (fun k => if k = 20 then c20 else if k = 21 then c21 else if k = 22 then c22 else c23), s.heap.size, ae, aw', b), rfl, rfl, ?_⟩
  refine ⟨⟨fun c q hq => ?_, fun k q hk => ?_⟩, fun i hi => ⟨?_, ?_, ?_⟩, ?_, hT, hX, hb, Nat.le_refl _, va_AO.of (htb jx_ao)⟩
  · have hc : c < 12 := by
      have := (List.getElem?_eq_some_iff.mp hq).1
      simpa [jcls] using this
    rw [jcls_at hc] at hq
    cases hq
    exact hfc c hc
  · match k, hk with
    | 0, hk => cases hk; exact ⟨k20, r20⟩
    | 1, hk => cases hk; exact ⟨k21, r21⟩
    | 2, hk => cases hk; exact ⟨k22, r22⟩
    | 3, hk => cases hk; exact ⟨k23, r23⟩
    | k + 4, hk => simp [jtys] at hk
  · exact va_Zof (htb (of_decide_eq_true (jall jx_ls_ok hi))) (htb jx_iw) (hae i hi) hA
  · exact jfield (hae i hi) (hfl (of_decide_eq_true (jall jx_co_ok hi))) hA
  · exact jfield (hae i hi) (hfl (of_decide_eq_true (jall jx_ow_ok hi))) hA
  · exact va_Zof (htb jx_lw) (htb jx_iw) hwv hA
theorem jsn_le (n0 n : Nat) : jsn n0 n ≤ 4000 * (n - n0) := by
  unfold jsn
  generalize n - n0 = k
  induction k with
  | zero => simp
  | succ k ih =>
    rw [List.range_succ, List.map_append, List.sum_append]
    have := (jsh_ok (n0 + 1 + k)).2.1
    simp only [List.map_cons, List.map_nil, List.sum_cons, List.sum_nil]
    omega
/-- the empty heap -/
def j0 : jS := (0, fun _ _ => 0, (fun _ _ => 0, fun _ _ => 0))
/-- what is left to show: the pure interpreter ends with 1 on every script -/
def jPure (L : Nat) (xs : Nat → Int32) : Prop := ∃ (n d : Nat) (σ2 : jS), d ≤ 1000 ∧ σ2.1 < 1000 ∧ px jprog (L, xs) n d jlaw 0 (jent [.ref 1032] 4) [] j0 = some (some (.int 1), σ2)
