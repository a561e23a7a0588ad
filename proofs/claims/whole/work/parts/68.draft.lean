/-! names, and a wedding while it is told -/
theorem fold_inj {B : Nat} (hB : 26 < B) : ∀ l m : List Nat, (∀ c ∈ l, 1 ≤ c ∧ c ≤ 26) → (∀ c ∈ m, 1 ≤ c ∧ c ≤ 26) → l.foldr (fun c v => c + B * v) 0 = m.foldr (fun c v => c + B * v) 0 → l = m := by
  intro l
  induction l with
  | nil =>
    intro m _ hm h
    cases m with
    | nil => rfl
    | cons c m =>
      have := hm c (List.mem_cons_self ..)
      simp only [List.foldr_nil, List.foldr_cons] at h
      omega
  | cons a l ih =>
    intro m hl hm h
    cases m with
    | nil =>
      have := hl a (List.mem_cons_self ..)
      simp only [List.foldr_nil, List.foldr_cons] at h
      omega
    | cons c m =>
      have ha := hl a (List.mem_cons_self ..)
      have hc := hm c (List.mem_cons_self ..)
      simp only [List.foldr_cons] at h
      have e1 : (a + B * l.foldr (fun c v => c + B * v) 0) % B = a := by rw [Nat.add_mul_mod_self_left]; exact Nat.mod_eq_of_lt (by omega)
      have e2 : (c + B * m.foldr (fun c v => c + B * v) 0) % B = c := by rw [Nat.add_mul_mod_self_left]; exact Nat.mod_eq_of_lt (by omega)
      have hac : a = c := by rw [← e1, ← e2, h]
      subst hac
      have e3 : B * l.foldr (fun c v => c + B * v) 0 = B * m.foldr (fun c v => c + B * v) 0 := by omega
      have e4 := Nat.eq_of_mul_eq_mul_left (by omega) e3
      rw [ih m (fun x hx => hl x (List.mem_cons_of_mem _ hx)) (fun x hx => hm x (List.mem_cons_of_mem _ hx)) e4]
theorem fold_lt {B : Nat} (hB : 26 < B) : ∀ l : List Nat, (∀ c ∈ l, 1 ≤ c ∧ c ≤ 26) → l.foldr (fun c v => c + B * v) 0 < B ^ l.length := by
  intro l
  induction l with
  | nil => intro _; exact Nat.one_pos
  | cons a l ih =>
    intro hl
    have ha := hl a (List.mem_cons_self ..)
    have := ih (fun x hx => hl x (List.mem_cons_of_mem _ hx))
    simp only [List.foldr_cons, List.length_cons]
    rw [Nat.pow_succ, Nat.mul_comm (B ^ l.length) B]
    have h2 : B * (l.foldr (fun c v => c + B * v) 0 + 1) ≤ B * B ^ l.length := Nat.mul_le_mul_left _ (by omega)
    rw [Nat.mul_add] at h2
    omega
theorem foldl_r (l : List Nat) : l.foldl (fun v c => 27 * v + c) 0 = l.reverse.foldr (fun c v => c + 27 * v) 0 := by
  rw [List.foldl_eq_foldr_reverse]
  congr 1
  funext c v
  omega
theorem jNm_eq {a a' : Int32} {b b' : Int64} (h : jNm a b) (h' : jNm a' b') : a = a' ↔ b = b' := by
  obtain ⟨l, l1, l2, l3, rfl, rfl⟩ := h
  obtain ⟨m, m1, m2, m3, rfl, rfl⟩ := h'
  have f1 := fold_lt (B := 32) (by omega) l l3
  have f2 := fold_lt (B := 32) (by omega) m m3
  have g1 := fold_lt (B := 27) (by omega) l.reverse (fun c hc => l3 c (List.mem_reverse.mp hc))
  have g2 := fold_lt (B := 27) (by omega) m.reverse (fun c hc => m3 c (List.mem_reverse.mp hc))
  have p1 := p32_6 l2
  have p2 := p32_6 m2
  rw [List.length_reverse] at g1 g2
  have q1 := p27_6 l2
  have q2 := p27_6 m2
  rw [foldl_r, foldl_r, jz_eq (by omega) (by omega) (by omega) (by omega), jw_eq (by omega) (by omega) (by omega) (by omega)]
  constructor
  · intro e
    have := fold_inj (B := 32) (by omega) l m l3 m3 (by omega)
    rw [this]
  · intro e
    have := fold_inj (B := 27) (by omega) l.reverse m.reverse (fun c hc => l3 c (List.mem_reverse.mp hc)) (fun c hc => m3 c (List.mem_reverse.mp hc)) (by omega)
    have := congrArg List.reverse this
    rw [List.reverse_reverse, List.reverse_reverse] at this
    rw [this]
theorem jNm_0 {a : Int32} {b : Int64} (h : jNm a b) : ¬ a = 0 ∧ ¬ b = 0 := by
  obtain ⟨l, l1, l2, l3, rfl, rfl⟩ := h
  have f1 := fold_lt (B := 32) (by omega) l l3
  have g1 := fold_lt (B := 27) (by omega) l.reverse (fun c hc => l3 c (List.mem_reverse.mp hc))
  have p1 := p32_6 l2
  rw [List.length_reverse] at g1
  have q1 := p27_6 l2
  have pos : ∀ (B : Nat) (m : List Nat), m ≠ [] → (∀ c ∈ m, 1 ≤ c ∧ c ≤ 26) → 0 < m.foldr (fun c v => c + B * v) 0 := by
    intro B m hm h3
    cases m with
    | nil => exact absurd rfl hm
    | cons a m =>
      have := h3 a (List.mem_cons_self ..)
      simp only [List.foldr_cons]
      omega
  have h1 := pos 32 l l1 l3
  have h2 := pos 27 l.reverse (by simpa using l1) (fun c hc => l3 c (List.mem_reverse.mp hc))
  rw [foldl_r]
  constructor
  · rw [show (0 : Int32) = jz 0 from rfl, jz_eq (by omega) (by omega) (by omega) (by omega)]; omega
  · rw [show (0 : Int64) = jw 0 from rfl, jw_eq (by omega) (by omega) (by omega) (by omega)]; omega
theorem fold_z (z : Nat) : ∀ l : List Nat, l.foldr (fun c v => c + 32 * v) z = l.foldr (fun c v => c + 32 * v) 0 + z * 32 ^ l.length := by
  intro l
  induction l with
  | nil => simp
  | cons a l ih =>
    simp only [List.foldr_cons, List.length_cons]
    rw [ih, Nat.mul_add, Nat.pow_succ]
    have : 32 * (z * 32 ^ l.length) = z * (32 ^ l.length * 32) := by
      rw [Nat.mul_comm 32, Nat.mul_assoc]
    omega
theorem xPk_fold (T : Nat → Nat) (s : Nat) : ∀ k, xPk T s k = ((List.range k).map (fun i => T (s + i) - 96)).foldr (fun c v => c + 32 * v) 0 := by
  intro k
  induction k with
  | zero => rfl
  | succ k ih =>
    rw [List.range_succ, List.map_append, List.foldr_append, fold_z]
    simp only [List.map_cons, List.map_nil, List.foldr_cons, List.foldr_nil, List.length_map, List.length_range]
    rw [← ih]
    show xPk T s k + (T (s + k) - 96) * 32 ^ k = _
    simp
theorem xNl_fold (T : Nat → Nat) (s : Nat) : ∀ k, xNl T s k = ((List.range k).map (fun i => T (s + i) - 96)).foldl (fun v c => 27 * v + c) 0 := by
  intro k
  induction k with
  | zero => rfl
  | succ k ih =>
    rw [List.range_succ, List.map_append, List.foldl_append, ← ih]
    rfl
/-- a name just read -/
theorem xNm_jNm {n : Nat} {T : Nat → Nat} {s : Nat} (c0 : s < n) (cl : xL (T s) = true) (h6 : ¬ 6 < xRun n T xL s - s) : jNm (jz (xWv n T s : Int)) (jw (xNl T s (xRun n T xL s - s) : Int)) := by
  have rg := xRunL_gt c0 cl
  refine ⟨(List.range (xRun n T xL s - s)).map (fun i => T (s + i) - 96), ?_, ?_, ?_, ?_, ?_⟩
  · intro h
    have := congrArg List.length h
    simp only [List.length_map, List.length_range, List.length_nil] at this
    omega
  · simp only [List.length_map, List.length_range]; omega
  · intro c hc
    obtain ⟨i, hi, rfl⟩ := List.mem_map.mp hc
    have hi := List.mem_range.mp hi
    have := xL_b (xRun_in (n := n) (T := T) (P := xL) (s := s) (i := s + i) (by omega) (by omega))
    omega
  · unfold xWv
    rw [if_pos (by omega), xPk_fold]
  · rw [xNl_fold]
/-- who bears a name, on both sides -/
theorem named_eq {d g : Nat} {hc hm : jH} {x : Int32} {y : Int64} (hg : g ≤ 8) (c0 : hc.1 d 0 = jz g) (m0 : hm.1 138 0 = jz g) (hk : ∀ k, k < g → (hc.1 (d + 1) k = x ↔ hm.2 139 k = y)) : ∃ r : Int, -1 ≤ r ∧ r < g ∧ fPn_guestNamed d x hc = some (jz r) ∧ fM_nameOf y hm = some (jz r) ∧ (r = -1 → ∀ k, k < g → hc.1 (d + 1) k ≠ x) := by
  have go : ∀ m k, k + m = g → (∀ j, j < k → hc.1 (d + 1) j ≠ x) → ∃ (r : Int) (u w : Int32 ⊕ Unit), -1 ≤ r ∧ r < g ∧ jlim (fPn_guestNamed_l2 d x hc) (jz k) = some u ∧ jlim (fM_nameOf_l2 y hm) (jz k) = some w ∧ Sum.elim (fun z => some z) (fun _ => some (-1 : Int32)) u = some (jz r) ∧ Sum.elim (fun z => some z) (fun _ => some (-1 : Int32)) w = some (jz r) ∧ (r = -1 → ∀ k, k < g → hc.1 (d + 1) k ≠ x) := by
    intro m
    induction m with
    | zero =>
      intro k hkm hj
      refine ⟨-1, .inr (), .inr (), by omega, by omega, ?_, ?_, rfl, rfl, fun _ j hjg => hj j (by omega)⟩
      · rw [jlim_1]
        show lim1 _ (fPn_guestNamed_l2_b d x (jz k) hc) = _
        unfold fPn_guestNamed_l2_b
        rw [c0, if_neg (by rw [jz_lt (by omega) (by omega) (by omega) (by omega)]; omega)]
        rfl
      · rw [jlim_1]
        show lim1 _ (fM_nameOf_l2_b y (jz k) hm) = _
        unfold fM_nameOf_l2_b
        rw [if_pos (by decide), show hm.1 138 (0 : Int32).toNatClampNeg = jz g from m0, if_neg (by rw [jz_lt (by omega) (by omega) (by omega) (by omega)]; omega)]
        rfl
    | succ m ih =>
      intro k hkm hj
      have ix : (jz (k : Int)).toNatClampNeg = k := by rw [jz_ix (by omega) (by omega), Int.toNat_natCast]
      have lc : fPn_guestNamed_l2_b d x (jz k) hc = if hc.1 (d + 1) k = x then some (.inr (.inl (jz k))) else some (.inl (jz ((k + 1 : Nat) : Int))) := by
        unfold fPn_guestNamed_l2_b
        rw [c0, if_pos (by rw [jz_lt (by omega) (by omega) (by omega) (by omega)]; omega), if_pos (by rw [show (8 : Int32) = jz 8 from rfl, jz_lt (by omega) (by omega) (by omega) (by omega)]; omega), if_pos (by rw [jin_z (by omega) (by omega)]; omega), ix, jk1]
      have lm : fM_nameOf_l2_b y (jz k) hm = if hm.2 139 k = y then some (.inr (.inl (jz k))) else some (.inl (jz ((k + 1 : Nat) : Int))) := by
        unfold fM_nameOf_l2_b
        rw [if_pos (by decide), show hm.1 138 (0 : Int32).toNatClampNeg = jz g from m0, if_pos (by rw [jz_lt (by omega) (by omega) (by omega) (by omega)]; omega), if_pos (by rw [jin_z (by omega) (by omega)]; omega), ix, jk1]
      by_cases q : hc.1 (d + 1) k = x
      · refine ⟨k, .inl (jz k), .inl (jz k), by omega, by omega, ?_, ?_, rfl, rfl, fun h => by omega⟩
        · rw [jlim_1]
          show lim1 _ (fPn_guestNamed_l2_b d x (jz k) hc) = _
          rw [lc, if_pos q]
          rfl
        · rw [jlim_1]
          show lim1 _ (fM_nameOf_l2_b y (jz k) hm) = _
          rw [lm, if_pos ((hk k (by omega)).mp q)]
          rfl
      · obtain ⟨r, u, w, i1, i2, i3, i4, i5, i6, i7⟩ := ih (k + 1) (by omega) (fun j hjk => by
          by_cases z : j = k
          · subst z; exact q
          · exact hj j (by omega))
        refine ⟨r, u, w, i1, i2, ?_, ?_, i5, i6, i7⟩
        · rw [jlim_1]
          show lim1 _ (fPn_guestNamed_l2_b d x (jz k) hc) = _
          rw [lc, if_neg q]
          exact i3
        · rw [jlim_1]
          show lim1 _ (fM_nameOf_l2_b y (jz k) hm) = _
          rw [lm, if_neg (fun t => q ((hk k (by omega)).mpr t))]
          exact i4
  obtain ⟨r, u, w, i1, i2, i3, i4, i5, i6, i7⟩ := go g 0 (by omega) (fun j h => by omega)
  have i3' : jlim (fPn_guestNamed_l2 d x hc) 0 = some u := i3
  have i4' : jlim (fM_nameOf_l2 y hm) 0 = some w := i4
  refine ⟨r, i1, i2, ?_, ?_, i7⟩
  · unfold fPn_guestNamed
    rw [i3', Option.bind_some]
    exact i5
  · unfold fM_nameOf
    rw [i4', Option.bind_some]
    exact i6
