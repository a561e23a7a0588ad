/-! Rules of the interpreter, an instruction each -/
section JRU
variable {X : jX} {d : Nat} {es : List jE} {pc : Nat} {pl : jPL} {st : List Value} {σ : jS} {Q : Option Value → jS → Prop} {len a b w z : Nat} {y : Int32 × Int64 × List (Int32 × Nat)} {o n0 : Nat} {R : jR} {h : jH}
def jpush (r : Option Value) (rest : List Value) : List Value := match r with
  | some v => v :: rest
  | none => rest
theorem jpush_eq (r : Option Value) (rest : List Value) : jpush r rest = r.toList ++ rest := by cases r <;> rfl
theorem jx_sti {x : Int32} {i : Nat} {p2 : jPL} (hf : jfe es pc = some (pc, .istore i, len, (a, b, 0, w), y)) (hi : i < pl.length) (hp : js1 pl i (.int x) = p2) (kk : jEx X d es (pc + len) p2 st σ Q) : jEx X d es pc pl (.int x :: st) σ Q := by
  subst hp
  refine jx_next hf ?_ kk
  simp only [jstep, jsti]
  rw [if_pos hi]
  rfl
theorem jx_stin {x : Int32} {i : Fin 4} {p2 : jPL} (hf : jfe es pc = some (pc, .istore_n i, len, (a, b, 0, w), y)) (hi : i.val < pl.length) (hp : js1 pl i.val (.int x) = p2) (kk : jEx X d es (pc + len) p2 st σ Q) : jEx X d es pc pl (.int x :: st) σ Q := by
  subst hp
  refine jx_next hf ?_ kk
  simp only [jstep, jsti]
  rw [if_pos hi]
  rfl
theorem jx_sta {x i : Nat} {p2 : jPL} (hf : jfe es pc = some (pc, .astore i, len, (a, b, 0, w), y)) (hi : i < pl.length) (hp : js1 pl i (.ref x) = p2) (kk : jEx X d es (pc + len) p2 st σ Q) : jEx X d es pc pl (.ref x :: st) σ Q := by
  subst hp
  refine jx_next hf ?_ kk
  simp only [jstep, jsta]
  rw [if_pos hi]
  rfl
theorem jx_stan {x : Nat} {i : Fin 4} {p2 : jPL} (hf : jfe es pc = some (pc, .astore_n i, len, (a, b, 0, w), y)) (hi : i.val < pl.length) (hp : js1 pl i.val (.ref x) = p2) (kk : jEx X d es (pc + len) p2 st σ Q) : jEx X d es pc pl (.ref x :: st) σ Q := by
  subst hp
  refine jx_next hf ?_ kk
  simp only [jstep, jsta]
  rw [if_pos hi]
  rfl
theorem jx_stl {x : Int64} {i : Nat} {p2 : jPL} (hf : jfe es pc = some (pc, .lstore i, len, (a, b, 0, w), y)) (hi : i + 1 < pl.length) (hp : js2 pl i (.long x) = p2) (kk : jEx X d es (pc + len) p2 st σ Q) : jEx X d es pc pl (.long x :: st) σ Q := by
  subst hp
  refine jx_next hf ?_ kk
  simp only [jstep, jstl]
  rw [if_pos hi]
  rfl
theorem jx_stln {x : Int64} {i : Fin 4} {p2 : jPL} (hf : jfe es pc = some (pc, .lstore_n i, len, (a, b, 0, w), y)) (hi : i.val + 1 < pl.length) (hp : js2 pl i.val (.long x) = p2) (kk : jEx X d es (pc + len) p2 st σ Q) : jEx X d es pc pl (.long x :: st) σ Q := by
  subst hp
  refine jx_next hf ?_ kk
  simp only [jstep, jstl]
  rw [if_pos hi]
  rfl
theorem jx_inc {x v : Int32} {i : Nat} {c : Int} {lv : Int64} {sw : List (Int32 × Nat)} {p2 : jPL} (hf : jfe es pc = some (pc, .iinc i c, len, (a, b, 0, w), (v, lv, sw))) (hx : pl.getD i none = some (.int x)) (hi : i < pl.length) (hp : js1 pl i (.int (x + v)) = p2) (kk : jEx X d es (pc + len) p2 st σ Q) : jEx X d es pc pl st σ Q := by
  subst hp
  refine jx_next hf ?_ kk
  simp only [jstep, jinc, hx]
  rw [if_pos hi]
  rfl
theorem jnx_def {E : jE} : jnx E pl st σ = some (.inl (E.1 + E.2.2.1, pl, st, σ)) := rfl
theorem jx_geti (hf : jfe es pc = some (pc, .getfield z, len, (a, b, 0, w), y)) (hc : jcl n0 o = a) (kk : jEx X d es (pc + len) pl (.int (h.1 o b) :: st) (n0, R, h) Q) : jEx X d es pc pl (.ref o :: st) (n0, R, h) Q :=
  by refine jx_next hf ?_ kk; simp only [jstep, jget]; rw [if_pos hc]; rfl
theorem jx_getl (hf : jfe es pc = some (pc, .getfield z, len, (a, b, 1, w), y)) (hc : jcl n0 o = a) (kk : jEx X d es (pc + len) pl (.long (h.2 o b) :: st) (n0, R, h) Q) : jEx X d es pc pl (.ref o :: st) (n0, R, h) Q :=
  by refine jx_next hf ?_ kk; simp only [jstep, jget]; rw [if_pos hc]; rfl
theorem jx_getr (hf : jfe es pc = some (pc, .getfield z, len, (a, b, 2, w), y)) (hc : jcl n0 o = a) (kk : jEx X d es (pc + len) pl (.ref (R o b) :: st) (n0, R, h) Q) : jEx X d es pc pl (.ref o :: st) (n0, R, h) Q :=
  by refine jx_next hf ?_ kk; simp only [jstep, jget]; rw [if_pos hc]; rfl
theorem jx_getw (hf : jfe es pc = some (pc, .getfield z, len, (a, b, 3, w), y)) (hc : jcl n0 o = a) (kk : jEx X d es (pc + len) pl (.int (jwc o b) :: st) (n0, R, h) Q) : jEx X d es pc pl (.ref o :: st) (n0, R, h) Q :=
  by refine jx_next hf ?_ kk; simp only [jstep, jget]; rw [if_pos hc]; rfl
theorem jx_getz (hf : jfe es pc = some (pc, .getfield z, len, (a, b, 4, w), y)) (hc : jcl n0 o = a) (kk : jEx X d es (pc + len) pl (.int (h.1 o b) :: st) (n0, R, h) Q) : jEx X d es pc pl (.ref o :: st) (n0, R, h) Q :=
  by refine jx_next hf ?_ kk; simp only [jstep, jget]; rw [if_pos hc]; rfl
theorem jx_puti {x : Int32} (hf : jfe es pc = some (pc, .putfield z, len, (a, b, 0, w), y)) (hc : jcl n0 o = a) (kk : jEx X d es (pc + len) pl st (n0, R, jhI h o b x) Q) : jEx X d es pc pl (.int x :: .ref o :: st) (n0, R, h) Q :=
  by refine jx_next hf ?_ kk; simp only [jstep, jput]; rw [if_pos hc]; rfl
theorem jx_putl {x : Int64} (hf : jfe es pc = some (pc, .putfield z, len, (a, b, 1, w), y)) (hc : jcl n0 o = a) (kk : jEx X d es (pc + len) pl st (n0, R, jhL h o b x) Q) : jEx X d es pc pl (.long x :: .ref o :: st) (n0, R, h) Q :=
  by refine jx_next hf ?_ kk; simp only [jstep, jput]; rw [if_pos hc]; rfl
theorem jx_putr {x : Nat} (hf : jfe es pc = some (pc, .putfield z, len, (a, b, 2, w), y)) (hc : jcl n0 o = a) (kk : jEx X d es (pc + len) pl st (n0, jup R o b x, h) Q) : jEx X d es pc pl (.ref x :: .ref o :: st) (n0, R, h) Q :=
  by refine jx_next hf ?_ kk; simp only [jstep, jput]; rw [if_pos hc]; rfl
theorem jx_putz {x : Int32} (hf : jfe es pc = some (pc, .putfield z, len, (a, b, 4, w), y)) (hc : jcl n0 o = a) (hx : x = 0 ∨ x = 1) (kk : jEx X d es (pc + len) pl st (n0, R, jhI h o b x) Q) : jEx X d es pc pl (.int x :: .ref o :: st) (n0, R, h) Q :=
  by refine jx_next hf ?_ kk; simp only [jstep, jput]; rw [if_pos ⟨hc, hx⟩]; rfl
theorem jx_iald {i : Int32} (hf : jfe es pc = some (pc, .iaload, len, (a, b, 0, w), y)) (hc : jcl n0 o = 20) (hi : jin i (jsh o).2) (kk : jEx X d es (pc + len) pl (.int (h.1 o i.toNatClampNeg) :: st) (n0, R, h) Q) : jEx X d es pc pl (.int i :: .ref o :: st) (n0, R, h) Q :=
  by refine jx_next hf ?_ kk; simp only [jstep, jiald]; rw [if_pos ⟨hc, hi⟩]; rfl
theorem jx_lald {i : Int32} (hf : jfe es pc = some (pc, .laload, len, (a, b, 0, w), y)) (hc : jcl n0 o = 21) (hi : jin i (jsh o).2) (kk : jEx X d es (pc + len) pl (.long (h.2 o i.toNatClampNeg) :: st) (n0, R, h) Q) : jEx X d es pc pl (.int i :: .ref o :: st) (n0, R, h) Q :=
  by refine jx_next hf ?_ kk; simp only [jstep, jlald]; rw [if_pos ⟨hc, hi⟩]; rfl
theorem jx_cald {i : Int32} (hf : jfe es pc = some (pc, .caload, len, (a, b, 0, w), y)) (hc : jcl n0 o = 22) (hi : jin i (jsh o).2) (kk : jEx X d es (pc + len) pl (.int (h.1 o i.toNatClampNeg) :: st) (n0, R, h) Q) : jEx X d es pc pl (.int i :: .ref o :: st) (n0, R, h) Q :=
  by refine jx_next hf ?_ kk; simp only [jstep, jcald]; rw [if_pos ⟨hc, hi⟩]; rfl
theorem jx_aald {i : Int32} (hf : jfe es pc = some (pc, .aaload, len, (a, b, 0, w), y)) (hc : jcl n0 o = 23) (hi : jin i (jsh o).2) (kk : jEx X d es (pc + len) pl (.ref (R o i.toNatClampNeg) :: st) (n0, R, h) Q) : jEx X d es pc pl (.int i :: .ref o :: st) (n0, R, h) Q :=
  by refine jx_next hf ?_ kk; simp only [jstep, jaald]; rw [if_pos ⟨hc, hi⟩]; rfl
theorem jx_xald {i : Int32} (hf : jfe es pc = some (pc, .iaload, len, (a, b, 0, w), y)) (hc : jcl n0 o = 25) (hi : jin i X.1) (kk : jEx X d es (pc + len) pl (.int (X.2 i.toNatClampNeg) :: st) (n0, R, h) Q) : jEx X d es pc pl (.int i :: .ref o :: st) (n0, R, h) Q :=
  by refine jx_next hf ?_ kk; simp only [jstep, jiald]; rw [if_neg (fun h => by rw [hc] at h; cases h.1), if_pos ⟨hc, hi⟩]; rfl
theorem jx_wald {i : Int32} (hf : jfe es pc = some (pc, .aaload, len, (a, b, 0, w), y)) (hc : jcl n0 o = 24) (hi : jin i 31) (kk : jEx X d es (pc + len) pl (.ref (1000 + i.toNatClampNeg) :: st) (n0, R, h) Q) : jEx X d es pc pl (.int i :: .ref o :: st) (n0, R, h) Q :=
  by refine jx_next hf ?_ kk; simp only [jstep, jaald]; rw [if_neg (fun h => by rw [hc] at h; cases h.1), if_pos ⟨hc, hi⟩]; rfl
theorem jx_alen {q : Nat} (hf : jfe es pc = some (pc, .arraylength, len, (a, b, 0, w), y)) (hc : jcl n0 o = q) (hq : 20 ≤ q ∧ q ≤ 23) (kk : jEx X d es (pc + len) pl (.int (Int32.ofNat (jsh o).2) :: st) (n0, R, h) Q) : jEx X d es pc pl (.ref o :: st) (n0, R, h) Q :=
  by refine jx_next hf ?_ kk; simp only [jstep, jal]; rw [if_pos (by rw [hc]; exact hq)]; rfl
theorem jx_wlen (hf : jfe es pc = some (pc, .arraylength, len, (a, b, 0, w), y)) (hc : jcl n0 o = 24) (kk : jEx X d es (pc + len) pl (.int 31 :: st) (n0, R, h) Q) : jEx X d es pc pl (.ref o :: st) (n0, R, h) Q :=
  by refine jx_next hf ?_ kk; simp only [jstep, jal]; rw [if_neg (by rw [hc]; decide), if_pos hc]; rfl
theorem jx_xlen (hf : jfe es pc = some (pc, .arraylength, len, (a, b, 0, w), y)) (hc : jcl n0 o = 25) (kk : jEx X d es (pc + len) pl (.int (Int32.ofNat X.1) :: st) (n0, R, h) Q) : jEx X d es pc pl (.ref o :: st) (n0, R, h) Q :=
  by refine jx_next hf ?_ kk; simp only [jstep, jal]; rw [if_neg (by rw [hc]; decide), if_neg (by rw [hc]; decide), if_pos hc]; rfl
theorem jx_iast {i : Int32} {x : Int32} (hf : jfe es pc = some (pc, .iastore, len, (a, b, 0, w), y)) (hc : jcl n0 o = 20) (hi : jin i (jsh o).2) (kk : jEx X d es (pc + len) pl st (n0, R, jhI h o i.toNatClampNeg x) Q) : jEx X d es pc pl (.int x :: .int i :: .ref o :: st) (n0, R, h) Q :=
  by refine jx_next hf ?_ kk; simp only [jstep, jiast]; rw [if_pos ⟨hc, hi⟩]; rfl
theorem jx_last {i : Int32} {x : Int64} (hf : jfe es pc = some (pc, .lastore, len, (a, b, 0, w), y)) (hc : jcl n0 o = 21) (hi : jin i (jsh o).2) (kk : jEx X d es (pc + len) pl st (n0, R, jhL h o i.toNatClampNeg x) Q) : jEx X d es pc pl (.long x :: .int i :: .ref o :: st) (n0, R, h) Q :=
  by refine jx_next hf ?_ kk; simp only [jstep, jlast]; rw [if_pos ⟨hc, hi⟩]; rfl
theorem jx_cast {i : Int32} {x : Int32} (hf : jfe es pc = some (pc, .castore, len, (a, b, 0, w), y)) (hc : jcl n0 o = 22) (hi : jin i (jsh o).2) (kk : jEx X d es (pc + len) pl st (n0, R, jhI h o i.toNatClampNeg (vp_nar .char x)) Q) : jEx X d es pc pl (.int x :: .int i :: .ref o :: st) (n0, R, h) Q :=
  by refine jx_next hf ?_ kk; simp only [jstep, jcast]; rw [if_pos ⟨hc, hi⟩]; rfl
theorem jx_aast {i : Int32} {x : Nat} (hf : jfe es pc = some (pc, .aastore, len, (a, b, 0, w), y)) (hc : jcl n0 o = 23) (hi : jin i (jsh o).2) (hx : x ≤ n0 ∧ jcl n0 x = 6) (kk : jEx X d es (pc + len) pl st (n0, jup R o i.toNatClampNeg x, h) Q) : jEx X d es pc pl (.ref x :: .int i :: .ref o :: st) (n0, R, h) Q :=
  by refine jx_next hf ?_ kk; simp only [jstep, jaast]; rw [if_pos ⟨⟨hc, hi⟩, hx⟩]; rfl
theorem jx_idiv {x y0 : Int32} (hf : jfe es pc = some (pc, .idiv, len, (a, b, 0, w), y)) (hn : ¬ y0 = 0) (kk : jEx X d es (pc + len) pl (.int (x / y0) :: st) σ Q) : jEx X d es pc pl (.int y0 :: .int x :: st) σ Q :=
  by refine jx_next hf ?_ kk; simp only [jstep, jo2d]; rw [if_neg hn]; rfl
theorem jx_irem {x y0 : Int32} (hf : jfe es pc = some (pc, .irem, len, (a, b, 0, w), y)) (hn : ¬ y0 = 0) (kk : jEx X d es (pc + len) pl (.int (x - x / y0 * y0) :: st) σ Q) : jEx X d es pc pl (.int y0 :: .int x :: st) σ Q :=
  by refine jx_next hf ?_ kk; simp only [jstep, jo2d]; rw [if_neg hn]; rfl
theorem jx_ldiv {x y0 : Int64} (hf : jfe es pc = some (pc, .ldiv, len, (a, b, 0, w), y)) (hn : ¬ y0 = 0) (kk : jEx X d es (pc + len) pl (.long (x / y0) :: st) σ Q) : jEx X d es pc pl (.long y0 :: .long x :: st) σ Q :=
  by refine jx_next hf ?_ kk; simp only [jstep, jL2d]; rw [if_neg hn]; rfl
theorem jx_lrem {x y0 : Int64} (hf : jfe es pc = some (pc, .lrem, len, (a, b, 0, w), y)) (hn : ¬ y0 = 0) (kk : jEx X d es (pc + len) pl (.long (x - x / y0 * y0) :: st) σ Q) : jEx X d es pc pl (.long y0 :: .long x :: st) σ Q :=
  by refine jx_next hf ?_ kk; simp only [jstep, jL2d]; rw [if_neg hn]; rfl
theorem jx_ifeq {x : Int32} {off : Int} (hf : jfe es pc = some (pc, .ifCond .eq off, 3, (a, b, 0, w), y)) (h1 : x = 0 → jEx X d es a pl st σ Q) (h2 : ¬ x = 0 → jEx X d es (pc + 3) pl st σ Q) : jEx X d es pc pl (.int x :: st) σ Q := by
  refine jx_next hf (rfl : jstep X _ pl _ σ = jgo _ pl st σ) ?_
  by_cases hq : x = 0
  · have := h1 hq
    simpa [jbr, hq] using this
  · have := h2 hq
    simpa [jbr, hq] using this
theorem jx_iceq {x y0 : Int32} {off : Int} (hf : jfe es pc = some (pc, .if_icmp .eq off, 3, (a, b, 0, w), y)) (h1 : x = y0 → jEx X d es a pl st σ Q) (h2 : ¬ x = y0 → jEx X d es (pc + 3) pl st σ Q) : jEx X d es pc pl (.int y0 :: .int x :: st) σ Q := by
  refine jx_next hf (rfl : jstep X _ pl _ σ = jgo _ pl st σ) ?_
  by_cases hq : x = y0
  · have := h1 hq
    simpa [jbr, hq] using this
  · have := h2 hq
    simpa [jbr, hq] using this
theorem jx_ifne {x : Int32} {off : Int} (hf : jfe es pc = some (pc, .ifCond .ne off, 3, (a, b, 0, w), y)) (h1 : x = 0 → jEx X d es (pc + 3) pl st σ Q) (h2 : ¬ x = 0 → jEx X d es a pl st σ Q) : jEx X d es pc pl (.int x :: st) σ Q := by
  refine jx_next hf (rfl : jstep X _ pl _ σ = jgo _ pl st σ) ?_
  by_cases hq : x = 0
  · have := h1 hq
    simpa [jbr, hq] using this
  · have := h2 hq
    simpa [jbr, hq] using this
theorem jx_icne {x y0 : Int32} {off : Int} (hf : jfe es pc = some (pc, .if_icmp .ne off, 3, (a, b, 0, w), y)) (h1 : x = y0 → jEx X d es (pc + 3) pl st σ Q) (h2 : ¬ x = y0 → jEx X d es a pl st σ Q) : jEx X d es pc pl (.int y0 :: .int x :: st) σ Q := by
  refine jx_next hf (rfl : jstep X _ pl _ σ = jgo _ pl st σ) ?_
  by_cases hq : x = y0
  · have := h1 hq
    simpa [jbr, hq] using this
  · have := h2 hq
    simpa [jbr, hq] using this
theorem jx_iflt {x : Int32} {off : Int} (hf : jfe es pc = some (pc, .ifCond .lt off, 3, (a, b, 0, w), y)) (h1 : x < 0 → jEx X d es a pl st σ Q) (h2 : ¬ x < 0 → jEx X d es (pc + 3) pl st σ Q) : jEx X d es pc pl (.int x :: st) σ Q := by
  refine jx_next hf (rfl : jstep X _ pl _ σ = jgo _ pl st σ) ?_
  by_cases hq : x < 0
  · have := h1 hq
    simpa [jbr, hq] using this
  · have := h2 hq
    simpa [jbr, hq] using this
theorem jx_iclt {x y0 : Int32} {off : Int} (hf : jfe es pc = some (pc, .if_icmp .lt off, 3, (a, b, 0, w), y)) (h1 : x < y0 → jEx X d es a pl st σ Q) (h2 : ¬ x < y0 → jEx X d es (pc + 3) pl st σ Q) : jEx X d es pc pl (.int y0 :: .int x :: st) σ Q := by
  refine jx_next hf (rfl : jstep X _ pl _ σ = jgo _ pl st σ) ?_
  by_cases hq : x < y0
  · have := h1 hq
    simpa [jbr, hq] using this
  · have := h2 hq
    simpa [jbr, hq] using this
theorem jx_ifge {x : Int32} {off : Int} (hf : jfe es pc = some (pc, .ifCond .ge off, 3, (a, b, 0, w), y)) (h1 : x < 0 → jEx X d es (pc + 3) pl st σ Q) (h2 : ¬ x < 0 → jEx X d es a pl st σ Q) : jEx X d es pc pl (.int x :: st) σ Q := by
  refine jx_next hf (rfl : jstep X _ pl _ σ = jgo _ pl st σ) ?_
  by_cases hq : x < 0
  · have := h1 hq
    simpa [jbr, hq] using this
  · have := h2 hq
    simpa [jbr, hq] using this
theorem jx_icge {x y0 : Int32} {off : Int} (hf : jfe es pc = some (pc, .if_icmp .ge off, 3, (a, b, 0, w), y)) (h1 : x < y0 → jEx X d es (pc + 3) pl st σ Q) (h2 : ¬ x < y0 → jEx X d es a pl st σ Q) : jEx X d es pc pl (.int y0 :: .int x :: st) σ Q := by
  refine jx_next hf (rfl : jstep X _ pl _ σ = jgo _ pl st σ) ?_
  by_cases hq : x < y0
  · have := h1 hq
    simpa [jbr, hq] using this
  · have := h2 hq
    simpa [jbr, hq] using this
theorem jx_ifgt {x : Int32} {off : Int} (hf : jfe es pc = some (pc, .ifCond .gt off, 3, (a, b, 0, w), y)) (h1 : 0 < x → jEx X d es a pl st σ Q) (h2 : ¬ 0 < x → jEx X d es (pc + 3) pl st σ Q) : jEx X d es pc pl (.int x :: st) σ Q := by
  refine jx_next hf (rfl : jstep X _ pl _ σ = jgo _ pl st σ) ?_
  by_cases hq : 0 < x
  · have := h1 hq
    simpa [jbr, hq] using this
  · have := h2 hq
    simpa [jbr, hq] using this
theorem jx_icgt {x y0 : Int32} {off : Int} (hf : jfe es pc = some (pc, .if_icmp .gt off, 3, (a, b, 0, w), y)) (h1 : y0 < x → jEx X d es a pl st σ Q) (h2 : ¬ y0 < x → jEx X d es (pc + 3) pl st σ Q) : jEx X d es pc pl (.int y0 :: .int x :: st) σ Q := by
  refine jx_next hf (rfl : jstep X _ pl _ σ = jgo _ pl st σ) ?_
  by_cases hq : y0 < x
  · have := h1 hq
    simpa [jbr, hq] using this
  · have := h2 hq
    simpa [jbr, hq] using this
theorem jx_ifle {x : Int32} {off : Int} (hf : jfe es pc = some (pc, .ifCond .le off, 3, (a, b, 0, w), y)) (h1 : 0 < x → jEx X d es (pc + 3) pl st σ Q) (h2 : ¬ 0 < x → jEx X d es a pl st σ Q) : jEx X d es pc pl (.int x :: st) σ Q := by
  refine jx_next hf (rfl : jstep X _ pl _ σ = jgo _ pl st σ) ?_
  by_cases hq : 0 < x
  · have := h1 hq
    simpa [jbr, hq] using this
  · have := h2 hq
    simpa [jbr, hq] using this
theorem jx_icle {x y0 : Int32} {off : Int} (hf : jfe es pc = some (pc, .if_icmp .le off, 3, (a, b, 0, w), y)) (h1 : y0 < x → jEx X d es (pc + 3) pl st σ Q) (h2 : ¬ y0 < x → jEx X d es a pl st σ Q) : jEx X d es pc pl (.int y0 :: .int x :: st) σ Q := by
  refine jx_next hf (rfl : jstep X _ pl _ σ = jgo _ pl st σ) ?_
  by_cases hq : y0 < x
  · have := h1 hq
    simpa [jbr, hq] using this
  · have := h2 hq
    simpa [jbr, hq] using this
theorem jlgc (x y : Int64) : (lg_cmp x y = 0 ↔ x = y) ∧ (lg_cmp x y < 0 ↔ x < y) ∧ (0 < lg_cmp x y ↔ y < x) := by
  unfold lg_cmp
  have tri : x < y ∨ x = y ∨ y < x := by
    rcases Int.lt_trichotomy x.toInt y.toInt with h | h | h
    · exact Or.inl (Int64.lt_iff_toInt_lt.mpr h)
    · exact Or.inr (Or.inl (Int64.toInt_inj.mp h))
    · exact Or.inr (Or.inr (Int64.lt_iff_toInt_lt.mpr h))
  rcases tri with h | h | h
  · have h1 : ¬ x = y := fun e => by rw [e] at h; exact Int64.lt_irrefl h
    have h2 : ¬ y < x := fun e => Int64.lt_irrefl (Int64.lt_trans h e)
    simp [h, h1, h2]
  · subst h
    simp [Int64.lt_irrefl]
  · have h1 : ¬ x = y := fun e => by rw [e] at h; exact Int64.lt_irrefl h
    have h2 : ¬ x < y := fun e => Int64.lt_irrefl (Int64.lt_trans h e)
    simp [h, h1, h2]
theorem jx_lceq {x y0 : Int64} {off : Int} {b1 w1 a1 : Nat} {y1 : Int32 × Int64 × List (Int32 × Nat)} (hf0 : jfe es pc = some (pc, .lcmp, 1, (a1, b1, 0, w1), y1)) (hf : jfe es (pc + 1) = some (pc + 1, .ifCond .eq off, 3, (a, b, 0, w), y)) (h1 : x = y0 → jEx X d es a pl st σ Q) (h2 : ¬ x = y0 → jEx X d es (pc + 1 + 3) pl st σ Q) : jEx X d es pc pl (.long y0 :: .long x :: st) σ Q := by
  refine jx_next hf0 (pc' := pc + 1) (pl' := pl) (st' := .int (lg_cmp x y0) :: st) (σ' := σ) rfl ?_
  exact jx_ifeq hf (fun hq => h1 ((jlgc x y0).1.mp hq)) (fun hq => h2 (fun z => hq ((jlgc x y0).1.mpr z)))
theorem jx_lcne {x y0 : Int64} {off : Int} {b1 w1 a1 : Nat} {y1 : Int32 × Int64 × List (Int32 × Nat)} (hf0 : jfe es pc = some (pc, .lcmp, 1, (a1, b1, 0, w1), y1)) (hf : jfe es (pc + 1) = some (pc + 1, .ifCond .ne off, 3, (a, b, 0, w), y)) (h1 : x = y0 → jEx X d es (pc + 1 + 3) pl st σ Q) (h2 : ¬ x = y0 → jEx X d es a pl st σ Q) : jEx X d es pc pl (.long y0 :: .long x :: st) σ Q := by
  refine jx_next hf0 (pc' := pc + 1) (pl' := pl) (st' := .int (lg_cmp x y0) :: st) (σ' := σ) rfl ?_
  exact jx_ifne hf (fun hq => h1 ((jlgc x y0).1.mp hq)) (fun hq => h2 (fun z => hq ((jlgc x y0).1.mpr z)))
theorem jx_lclt {x y0 : Int64} {off : Int} {b1 w1 a1 : Nat} {y1 : Int32 × Int64 × List (Int32 × Nat)} (hf0 : jfe es pc = some (pc, .lcmp, 1, (a1, b1, 0, w1), y1)) (hf : jfe es (pc + 1) = some (pc + 1, .ifCond .lt off, 3, (a, b, 0, w), y)) (h1 : x < y0 → jEx X d es a pl st σ Q) (h2 : ¬ x < y0 → jEx X d es (pc + 1 + 3) pl st σ Q) : jEx X d es pc pl (.long y0 :: .long x :: st) σ Q := by
  refine jx_next hf0 (pc' := pc + 1) (pl' := pl) (st' := .int (lg_cmp x y0) :: st) (σ' := σ) rfl ?_
  exact jx_iflt hf (fun hq => h1 ((jlgc x y0).2.1.mp hq)) (fun hq => h2 (fun z => hq ((jlgc x y0).2.1.mpr z)))
theorem jx_lcge {x y0 : Int64} {off : Int} {b1 w1 a1 : Nat} {y1 : Int32 × Int64 × List (Int32 × Nat)} (hf0 : jfe es pc = some (pc, .lcmp, 1, (a1, b1, 0, w1), y1)) (hf : jfe es (pc + 1) = some (pc + 1, .ifCond .ge off, 3, (a, b, 0, w), y)) (h1 : x < y0 → jEx X d es (pc + 1 + 3) pl st σ Q) (h2 : ¬ x < y0 → jEx X d es a pl st σ Q) : jEx X d es pc pl (.long y0 :: .long x :: st) σ Q := by
  refine jx_next hf0 (pc' := pc + 1) (pl' := pl) (st' := .int (lg_cmp x y0) :: st) (σ' := σ) rfl ?_
  exact jx_ifge hf (fun hq => h1 ((jlgc x y0).2.1.mp hq)) (fun hq => h2 (fun z => hq ((jlgc x y0).2.1.mpr z)))
theorem jx_lcgt {x y0 : Int64} {off : Int} {b1 w1 a1 : Nat} {y1 : Int32 × Int64 × List (Int32 × Nat)} (hf0 : jfe es pc = some (pc, .lcmp, 1, (a1, b1, 0, w1), y1)) (hf : jfe es (pc + 1) = some (pc + 1, .ifCond .gt off, 3, (a, b, 0, w), y)) (h1 : y0 < x → jEx X d es a pl st σ Q) (h2 : ¬ y0 < x → jEx X d es (pc + 1 + 3) pl st σ Q) : jEx X d es pc pl (.long y0 :: .long x :: st) σ Q := by
  refine jx_next hf0 (pc' := pc + 1) (pl' := pl) (st' := .int (lg_cmp x y0) :: st) (σ' := σ) rfl ?_
  exact jx_ifgt hf (fun hq => h1 ((jlgc x y0).2.2.mp hq)) (fun hq => h2 (fun z => hq ((jlgc x y0).2.2.mpr z)))
theorem jx_lcle {x y0 : Int64} {off : Int} {b1 w1 a1 : Nat} {y1 : Int32 × Int64 × List (Int32 × Nat)} (hf0 : jfe es pc = some (pc, .lcmp, 1, (a1, b1, 0, w1), y1)) (hf : jfe es (pc + 1) = some (pc + 1, .ifCond .le off, 3, (a, b, 0, w), y)) (h1 : y0 < x → jEx X d es (pc + 1 + 3) pl st σ Q) (h2 : ¬ y0 < x → jEx X d es a pl st σ Q) : jEx X d es pc pl (.long y0 :: .long x :: st) σ Q := by
  refine jx_next hf0 (pc' := pc + 1) (pl' := pl) (st' := .int (lg_cmp x y0) :: st) (σ' := σ) rfl ?_
  exact jx_ifle hf (fun hq => h1 ((jlgc x y0).2.2.mp hq)) (fun hq => h2 (fun z => hq ((jlgc x y0).2.2.mpr z)))
theorem jx_tsw {x : Int32} {dd lo hi : Int} {offs : Array Int} {y1 : Int32} {y2 : Int64} {sw : List (Int32 × Nat)} (hf : jfe es pc = some (pc, .tableswitch dd lo hi offs, len, (a, b, 0, w), (y1, y2, sw))) (kk : jEx X d es (jswl sw a x) pl st σ Q) : jEx X d es pc pl (.int x :: st) σ Q := jx_next hf (rfl : jstep X _ pl _ σ = jgo _ pl st σ) kk
theorem jx_lsw {x : Int32} {dd : Int} {ps : Array (Int × Int)} {y1 : Int32} {y2 : Int64} {sw : List (Int32 × Nat)} (hf : jfe es pc = some (pc, .lookupswitch dd ps, len, (a, b, 0, w), (y1, y2, sw))) (kk : jEx X d es (jswl sw a x) pl st σ Q) : jEx X d es pc pl (.int x :: st) σ Q := jx_next hf (rfl : jstep X _ pl _ σ = jgo _ pl st σ) kk
theorem jx_sw1 {x q : Int32} {t dd : Nat} {r : List (Int32 × Nat)} (h1 : x = q → jEx X d es t pl st σ Q) (h2 : ¬ x = q → jEx X d es (jswl r dd x) pl st σ Q) : jEx X d es (jswl ((q, t) :: r) dd x) pl st σ Q := by
  by_cases hq : x = q
  · have := h1 hq
    simpa [jswl, hq] using this
  · have := h2 hq
    simpa [jswl, hq] using this
theorem jx_sw0 {x : Int32} {dd : Nat} (h : jEx X d es dd pl st σ Q) : jEx X d es (jswl [] dd x) pl st σ Q := h
theorem jx_iret {v : Int32} (hf : jfe es pc = some (pc, .ireturn, len, (0, b, 0, w), y)) (hq : Q (some (.int v)) σ) : jEx X d es pc pl [.int v] σ Q :=
  by refine jx_ret hf ?_ hq; simp [jstep, jret]
theorem jx_zret {v : Int32} (hf : jfe es pc = some (pc, .ireturn, len, (1, b, 0, w), y)) (hv : v = 0 ∨ v = 1) (hq : Q (some (.int v)) σ) : jEx X d es pc pl [.int v] σ Q :=
  by refine jx_ret hf ?_ hq; simp [jstep, jret, hv]
theorem jx_callv {mi n c : Nat} {rest : List Value} (hf : jfe es pc = some (pc, .invokevirtual z, 3, (mi, n, c, w), y)) (h0 : c ≠ 0 ∧ c ≠ 99) (hd : st.drop n = .ref o :: rest) (hc : jcl σ.1 o = c) (hs : (rest.map fun v => v.category).sum ≤ 8) (kk : jCa X d mi (.ref o :: (st.take n).reverse) σ (fun r σ1 => jEx X (d + 1) es (pc + 3) pl (jpush r rest) σ1 Q)) : jEx X (d + 1) es pc pl st σ Q := by
  refine jx_call hf (vs := .ref o :: (st.take n).reverse) (rest := rest) (mi := mi) ?_ (jCa_imp kk (fun r τ hq => by rw [← jpush_eq]; exact hq))
  simp only [jstep, jcall]
  split
  · exact absurd rfl h0.1
  · exact absurd rfl h0.2
  · rw [hd]
    simp only
    rw [if_pos ⟨hc, hs⟩]
theorem jx_calls {mi n : Nat} (hf : jfe es pc = some (pc, .invokestatic z, 3, (mi, n, 0, w), y)) (hn : n ≤ st.length) (hs : ((st.drop n).map fun v => v.category).sum ≤ 8) (kk : jCa X d mi (st.take n).reverse σ (fun r σ1 => jEx X (d + 1) es (pc + 3) pl (jpush r (st.drop n)) σ1 Q)) : jEx X (d + 1) es pc pl st σ Q := by
  refine jx_call hf (vs := (st.take n).reverse) (rest := st.drop n) (mi := mi) ?_ (jCa_imp kk (fun r τ hq => by rw [← jpush_eq]; exact hq))
  simp only [jstep, jcall]
  rw [if_pos ⟨hn, hs⟩]
theorem jCa_of {mi : Nat} {M : jM} {vs : List Value} {es : List jE} {pl : jPL} (hM : jprog[mi]? = some M) (he : M.2.2.2.2.2 = es) (hl : jent vs M.2.2.1 = pl) (hn : pl.length = M.2.2.1) (h : jEx X d es 0 pl [] σ Q) : jCa X d mi vs σ Q := by
  subst he; subst hl
  exact ⟨M, hM, hn, h⟩
theorem px_deep {P : List jM} {X : jX} : ∀ {n : Nat} {d : Nat} {es : List jE} {pc : Nat} {pl : jPL} {st : List Value} {σ : jS} {z : Option Value × jS}, px P X n d es pc pl st σ = some z → ∀ {k : Nat}, d ≤ k → px P X n k es pc pl st σ = some z := by
  intro n
  induction n with
  | zero => intro d es pc pl st σ z h; simp [px] at h
  | succ n ih =>
    intro d es pc pl st σ z h k hk
    unfold px at h ⊢
    cases hf : jfe es pc with
    | none => rw [hf] at h; cases h
    | some E =>
      rw [hf] at h
      simp only at h ⊢
      cases hs : jstep X E pl st σ with
      | none => rw [hs] at h; cases h
      | some o =>
        rw [hs] at h
        rcases o with ⟨pc', pl', st', σ'⟩ | r | ⟨mi, vs, rest⟩
        · simp only at h ⊢
          exact ih h hk
        · exact h
        · simp only at h ⊢
          cases d with
          | zero => cases h
          | succ d =>
            cases k with
            | zero => omega
            | succ k =>
              simp only at h ⊢
              cases hM : P[mi]? with
              | none => rw [hM] at h; cases h
              | some M =>
                rw [hM] at h
                simp only at h ⊢
                by_cases hl : (jent vs M.2.2.1).length = M.2.2.1
                · rw [if_pos hl] at h ⊢
                  cases hc : px P X n d M.2.2.2.2.2 0 (jent vs M.2.2.1) [] σ with
                  | none => rw [hc] at h; cases h
                  | some q =>
                    rw [hc] at h
                    rw [ih hc (by omega)]
                    obtain ⟨r1, σ1⟩ := q
                    simp only at h ⊢
                    exact ih h hk
                · rw [if_neg hl] at h; cases h
theorem jCa_deep {mi k : Nat} {vs : List Value} (hk : d ≤ k) (h : jCa X d mi vs σ Q) : jCa X k mi vs σ Q := by
  obtain ⟨M, h1, h2, n, r, τ, h3, h4⟩ := h
  exact ⟨M, h1, h2, n, r, τ, px_deep h3 hk, h4⟩
end JRU
