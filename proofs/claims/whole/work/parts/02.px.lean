/-! A pure interpreter of the bytecode: objects by their numbers, rows as functions; 'px' is proved sound in part 04 -/
abbrev jI : Type := Nat → Nat → Int32
abbrev jL : Type := Nat → Nat → Int64
abbrev jR : Type := Nat → Nat → Nat
abbrev jH : Type := jI × jL
abbrev jS : Type := Nat × jR × jH
abbrev jX : Type := Nat × (Nat → Int32)
abbrev jE : Type := Nat × Instr × Nat × (Nat × Nat × Nat × Nat) × (Int32 × Int64 × List (Int32 × Nat))
abbrev jM : Type := MethodName × ByteArray × Nat × Option FieldType × (Nat × Bool × Nat) × List jE
abbrev jPL : Type := List (Option Value)
abbrev jO : Type := (Nat × jPL × List Value × jS) ⊕ (Option Value ⊕ (Nat × List Value × List Value))
def jup {α : Type} (f : Nat → Nat → α) (o k : Nat) (v : α) : Nat → Nat → α := fun o' k' => if o' = o ∧ k' = k then v else f o' k'
def jcr {α : Type} (f : Nat → Nat → α) (o : Nat) (z : α) : Nat → Nat → α := fun o' k' => if o' = o then z else f o' k'
def jhI (h : jH) (o k : Nat) (v : Int32) : jH := (jup h.1 o k v, h.2)
def jhL (h : jH) (o k : Nat) (v : Int64) : jH := (h.1, jup h.2 o k v)
def jSI (σ : jS) (o k : Nat) (v : Int32) : jS := (σ.1, σ.2.1, jhI σ.2.2 o k v)
def jSL (σ : jS) (o k : Nat) (v : Int64) : jS := (σ.1, σ.2.1, jhL σ.2.2 o k v)
def jSR (σ : jS) (o k v : Nat) : jS := (σ.1, jup σ.2.1 o k v, σ.2.2)
def jnew (σ : jS) : jS := (σ.1 + 1, jcr σ.2.1 (σ.1 + 1) 0, (jcr σ.2.2.1 (σ.1 + 1) 0, jcr σ.2.2.2 (σ.1 + 1) 0))
abbrev jin (i : Int32) (n : Nat) : Prop := ¬ i < 0 ∧ i.toNatClampNeg < n
def jshL : List (Nat × Nat) := [(0, 0), (1, 16), (2, 2), (20, 1600), (2, 2), (20, 29), (3, 7), (4, 1), (5, 4), (20, 1600), (20, 64), (6, 4), (20, 8), (20, 8), (6, 4), (20, 8), (20, 8), (7, 2), (23, 20), (6, 4), (20, 8), (20, 8), (6, 4), (20, 8), (20, 8), (6, 4), (20, 8), (20, 8), (6, 4), (20, 8), (20, 8), (6, 4), (20, 8), (20, 8), (6, 4), (20, 8), (20, 8), (6, 4), (20, 8), (20, 8), (6, 4), (20, 8), (20, 8), (6, 4), (20, 8), (20, 8), (6, 4), (20, 8), (20, 8), (6, 4), (20, 8), (20, 8), (6, 4), (20, 8), (20, 8), (6, 4), (20, 8), (20, 8), (6, 4), (20, 8), (20, 8), (6, 4), (20, 8), (20, 8), (6, 4), (20, 8), (20, 8), (6, 4), (20, 8), (20, 8), (6, 4), (20, 8), (20, 8), (6, 4), (20, 8), (20, 8), (6, 4), (20, 8), (20, 8), (8, 5), (9, 2), (21, 33), (20, 7), (20, 8), (10, 19), (20, 8), (20, 8), (20, 8), (20, 8), (20, 8), (20, 8), (20, 8), (20, 8), (5, 4), (20, 1600), (20, 64), (11, 6), (20, 6), (10, 19), (20, 8), (20, 8), (20, 8), (20, 8), (20, 8), (20, 8), (20, 8), (20, 8), (5, 4), (20, 1600), (20, 64), (12, 91), (20, 1600), (20, 6), (22, 5), (22, 5), (22, 5), (22, 4), (22, 5), (22, 5), (22, 3), (22, 4), (22, 6), (22, 5), (22, 5), (22, 4), (22, 5), (22, 4), (22, 4), (22, 5), (22, 4), (22, 6), (22, 3), (22, 2), (22, 3), (22, 3), (22, 3), (22, 3), (22, 3), (20, 6), (21, 16), (20, 8), (20, 64), (20, 16), (20, 16), (20, 6), (20, 2), (20, 2), (20, 3200), (20, 18), (20, 18), (21, 33), (21, 9), (20, 360), (22, 5), (22, 4), (22, 5), (22, 5), (22, 4), (22, 5), (22, 3), (22, 3), (22, 2), (22, 3), (22, 3), (22, 3), (22, 5), (22, 6), (22, 3), (22, 4), (22, 6), (22, 3), (22, 5), (22, 5), (20, 1700), (20, 1700), (21, 1700), (20, 29)]
def jwcode : List Int32 := [20579507, 8501410, 5899664, 363564, 21599911, 20100579, 26090, 282935, 679716243, 20329136, 20513960, 184364, 5334061, 474611, 182765, 20288695, 190771, 609302190, 24040, 591, 4545, 20974, 12673, 14637, 24621, 21612838, 674860, 14864591, 12636660, 675309, 21595308]
def jwown : List Int32 := [1, 1, 1, 1, 1, 1, 1, 1, 1, 1, 1, 1, 1, 1, 1, 1, 1, 1, 1, 1, 1, 1, 1, 1, 1, 0, 0, 0, 0, 0, 0]
def jsh (o : Nat) : Nat × Nat := jshL.getD o (0, 0)
def jcl (n o : Nat) : Nat := if o ≤ n then (jsh o).1 else if o < 1000 then 0 else if o < 1031 then 13 else if o = 1031 then 24 else if o = 1032 then 25 else 0
def jwc (o k : Nat) : Int32 := if k = 0 then jwcode.getD (o - 1000) 0 else jwown.getD (o - 1000) 0
def jnx (e : jE) (pl : jPL) (st : List Value) (σ : jS) : Option jO := some (.inl (e.1 + e.2.2.1, pl, st, σ))
def jgo (t : Nat) (pl : jPL) (st : List Value) (σ : jS) : Option jO := some (.inl (t, pl, st, σ))
def jil (v : Option Value) : Bool := match v with
  | some (.long _) => true
  | some (.double _) => true
  | _ => false
/-- the place ahead of i, if it held a long, holds nothing any more -/
def jkl (pl : jPL) (i : Nat) : jPL := match i with
  | 0 => pl
  | j + 1 => if jil (pl.getD j none) = true then pl.set j none else pl
def js1 (pl : jPL) (i : Nat) (v : Value) : jPL := (jkl pl i).set i (some v)
def js2 (pl : jPL) (i : Nat) (v : Value) : jPL := ((jkl pl i).set i (some v)).set (i + 1) none
def jldi (i : Nat) (e : jE) (pl : jPL) (st : List Value) (σ : jS) : Option jO := match pl.getD i none with
  | some (.int x) => jnx e pl (.int x :: st) σ
  | _ => none
def jldl (i : Nat) (e : jE) (pl : jPL) (st : List Value) (σ : jS) : Option jO := match pl.getD i none with
  | some (.long x) => jnx e pl (.long x :: st) σ
  | _ => none
def jlda (i : Nat) (e : jE) (pl : jPL) (st : List Value) (σ : jS) : Option jO := match pl.getD i none with
  | some (.ref x) => jnx e pl (.ref x :: st) σ
  | _ => none
def jsti (i : Nat) (e : jE) (pl : jPL) (st : List Value) (σ : jS) : Option jO := match st with
  | .int x :: r => if i < pl.length then jnx e (js1 pl i (.int x)) r σ else none
  | _ => none
def jstl (i : Nat) (e : jE) (pl : jPL) (st : List Value) (σ : jS) : Option jO := match st with
  | .long x :: r => if i + 1 < pl.length then jnx e (js2 pl i (.long x)) r σ else none
  | _ => none
def jsta (i : Nat) (e : jE) (pl : jPL) (st : List Value) (σ : jS) : Option jO := match st with
  | .ref x :: r => if i < pl.length then jnx e (js1 pl i (.ref x)) r σ else none
  | _ => none
def jinc (i : Nat) (v : Int32) (e : jE) (pl : jPL) (st : List Value) (σ : jS) : Option jO := match pl.getD i none with
  | some (.int x) => if i < pl.length then jnx e (js1 pl i (.int (x + v))) st σ else none
  | _ => none
def jo2 (f : Int32 → Int32 → Int32) (e : jE) (pl : jPL) (st : List Value) (σ : jS) : Option jO := match st with
  | .int y :: .int x :: r => jnx e pl (.int (f x y) :: r) σ
  | _ => none
def jo2d (f : Int32 → Int32 → Int32) (e : jE) (pl : jPL) (st : List Value) (σ : jS) : Option jO := match st with
  | .int y :: .int x :: r => if y = 0 then none else jnx e pl (.int (f x y) :: r) σ
  | _ => none
def jL2 (f : Int64 → Int64 → Int64) (e : jE) (pl : jPL) (st : List Value) (σ : jS) : Option jO := match st with
  | .long y :: .long x :: r => jnx e pl (.long (f x y) :: r) σ
  | _ => none
def jL2d (f : Int64 → Int64 → Int64) (e : jE) (pl : jPL) (st : List Value) (σ : jS) : Option jO := match st with
  | .long y :: .long x :: r => if y = 0 then none else jnx e pl (.long (f x y) :: r) σ
  | _ => none
def jlc (e : jE) (pl : jPL) (st : List Value) (σ : jS) : Option jO := match st with
  | .long y :: .long x :: r => jnx e pl (.int (lg_cmp x y) :: r) σ
  | _ => none
def jcv1 (e : jE) (pl : jPL) (st : List Value) (σ : jS) : Option jO := match st with
  | .int x :: r => jnx e pl (.long x.toInt64 :: r) σ
  | _ => none
def jcv2 (e : jE) (pl : jPL) (st : List Value) (σ : jS) : Option jO := match st with
  | .long x :: r => jnx e pl (.int x.toInt32 :: r) σ
  | _ => none
def jbr (c : Jvm.ClassFile.Cond) (x y : Int32) (t f : Nat) : Nat := match c with
  | .eq => if x = y then t else f
  | .ne => if x = y then f else t
  | .lt => if x < y then t else f
  | .ge => if x < y then f else t
  | .gt => if y < x then t else f
  | .le => if y < x then f else t
def jif1 (c : Jvm.ClassFile.Cond) (e : jE) (pl : jPL) (st : List Value) (σ : jS) : Option jO := match st with
  | .int x :: r => jgo (jbr c x 0 e.2.2.2.1.1 (e.1 + 3)) pl r σ
  | _ => none
def jif2 (c : Jvm.ClassFile.Cond) (e : jE) (pl : jPL) (st : List Value) (σ : jS) : Option jO := match st with
  | .int y :: .int x :: r => jgo (jbr c x y e.2.2.2.1.1 (e.1 + 3)) pl r σ
  | _ => none
def jswl : List (Int32 × Nat) → Nat → Int32 → Nat
  | [], d, _ => d
  | (k, t) :: r, d, x => if x = k then t else jswl r d x
def jsw (e : jE) (pl : jPL) (st : List Value) (σ : jS) : Option jO := match st with
  | .int x :: r => jgo (jswl e.2.2.2.2.2.2 e.2.2.2.1.1 x) pl r σ
  | _ => none
def jdup (e : jE) (pl : jPL) (st : List Value) (σ : jS) : Option jO := match st with
  | .int x :: r => jnx e pl (.int x :: .int x :: r) σ
  | .ref x :: r => jnx e pl (.ref x :: .ref x :: r) σ
  | _ => none
def jdup2 (e : jE) (pl : jPL) (st : List Value) (σ : jS) : Option jO := match st with
  | .int x :: .ref y :: r => jnx e pl (.int x :: .ref y :: .int x :: .ref y :: r) σ
  | _ => none
def jpop (e : jE) (pl : jPL) (st : List Value) (σ : jS) : Option jO := match st with
  | .int _ :: r => jnx e pl r σ
  | .ref _ :: r => jnx e pl r σ
  | _ => none
/-- what field b, of kind k, of object o holds: 0 an int, 1 a long, 2 a reference, 3 an int of a constant, 4 a truth value -/
def jfv (σ : jS) (k o b : Nat) : Value := match k with
  | 0 => .int (σ.2.2.1 o b)
  | 1 => .long (σ.2.2.2 o b)
  | 2 => .ref (σ.2.1 o b)
  | 3 => .int (jwc o b)
  | _ => .int (σ.2.2.1 o b)
def jget (e : jE) (pl : jPL) (st : List Value) (σ : jS) : Option jO := match st with
  | .ref o :: r => if jcl σ.1 o = e.2.2.2.1.1 then jnx e pl (jfv σ e.2.2.2.1.2.2.1 o e.2.2.2.1.2.1 :: r) σ else none
  | _ => none
def jput (e : jE) (pl : jPL) (st : List Value) (σ : jS) : Option jO := match e.2.2.2.1.2.2.1, st with
  | 0, .int x :: .ref o :: r => if jcl σ.1 o = e.2.2.2.1.1 then jnx e pl r (jSI σ o e.2.2.2.1.2.1 x) else none
  | 1, .long x :: .ref o :: r => if jcl σ.1 o = e.2.2.2.1.1 then jnx e pl r (jSL σ o e.2.2.2.1.2.1 x) else none
  | 2, .ref x :: .ref o :: r => if jcl σ.1 o = e.2.2.2.1.1 then jnx e pl r (jSR σ o e.2.2.2.1.2.1 x) else none
  | 4, .int x :: .ref o :: r => if jcl σ.1 o = e.2.2.2.1.1 ∧ (x = 0 ∨ x = 1) then jnx e pl r (jSI σ o e.2.2.2.1.2.1 x) else none
  | _, _ => none
def jgst (e : jE) (pl : jPL) (st : List Value) (σ : jS) : Option jO := jnx e pl (.ref (1000 + e.2.2.2.1.1) :: st) σ
def jal (X : jX) (e : jE) (pl : jPL) (st : List Value) (σ : jS) : Option jO := match st with
  | .ref o :: r => if 20 ≤ jcl σ.1 o ∧ jcl σ.1 o ≤ 23 then jnx e pl (.int (Int32.ofNat (jsh o).2) :: r) σ
      else if jcl σ.1 o = 24 then jnx e pl (.int 31 :: r) σ
      else if jcl σ.1 o = 25 then jnx e pl (.int (Int32.ofNat X.1) :: r) σ else none
  | _ => none
def jiald (X : jX) (e : jE) (pl : jPL) (st : List Value) (σ : jS) : Option jO := match st with
  | .int i :: .ref o :: r => if jcl σ.1 o = 20 ∧ jin i (jsh o).2 then jnx e pl (.int (σ.2.2.1 o i.toNatClampNeg) :: r) σ
      else if jcl σ.1 o = 25 ∧ jin i X.1 then jnx e pl (.int (X.2 i.toNatClampNeg) :: r) σ else none
  | _ => none
def jlald (e : jE) (pl : jPL) (st : List Value) (σ : jS) : Option jO := match st with
  | .int i :: .ref o :: r => if jcl σ.1 o = 21 ∧ jin i (jsh o).2 then jnx e pl (.long (σ.2.2.2 o i.toNatClampNeg) :: r) σ else none
  | _ => none
def jcald (e : jE) (pl : jPL) (st : List Value) (σ : jS) : Option jO := match st with
  | .int i :: .ref o :: r => if jcl σ.1 o = 22 ∧ jin i (jsh o).2 then jnx e pl (.int (σ.2.2.1 o i.toNatClampNeg) :: r) σ else none
  | _ => none
def jaald (e : jE) (pl : jPL) (st : List Value) (σ : jS) : Option jO := match st with
  | .int i :: .ref o :: r => if jcl σ.1 o = 23 ∧ jin i (jsh o).2 then jnx e pl (.ref (σ.2.1 o i.toNatClampNeg) :: r) σ
      else if jcl σ.1 o = 24 ∧ jin i 31 then jnx e pl (.ref (1000 + i.toNatClampNeg) :: r) σ else none
  | _ => none
def jiast (e : jE) (pl : jPL) (st : List Value) (σ : jS) : Option jO := match st with
  | .int x :: .int i :: .ref o :: r => if jcl σ.1 o = 20 ∧ jin i (jsh o).2 then jnx e pl r (jSI σ o i.toNatClampNeg x) else none
  | _ => none
def jlast (e : jE) (pl : jPL) (st : List Value) (σ : jS) : Option jO := match st with
  | .long x :: .int i :: .ref o :: r => if jcl σ.1 o = 21 ∧ jin i (jsh o).2 then jnx e pl r (jSL σ o i.toNatClampNeg x) else none
  | _ => none
def jcast (e : jE) (pl : jPL) (st : List Value) (σ : jS) : Option jO := match st with
  | .int x :: .int i :: .ref o :: r => if jcl σ.1 o = 22 ∧ jin i (jsh o).2 then jnx e pl r (jSI σ o i.toNatClampNeg (vp_nar .char x)) else none
  | _ => none
def jaast (e : jE) (pl : jPL) (st : List Value) (σ : jS) : Option jO := match st with
  | .ref x :: .int i :: .ref o :: r => if (jcl σ.1 o = 23 ∧ jin i (jsh o).2) ∧ (x ≤ σ.1 ∧ jcl σ.1 x = 6) then jnx e pl r (jSR σ o i.toNatClampNeg x) else none
  | _ => none
def jnob (e : jE) (pl : jPL) (st : List Value) (σ : jS) : Option jO :=
  if σ.1 + 1 < 1000 ∧ (jsh (σ.1 + 1)).1 = e.2.2.2.1.1 then jnx e pl (.ref (σ.1 + 1) :: st) (jnew σ) else none
def jnar (e : jE) (pl : jPL) (st : List Value) (σ : jS) : Option jO := match st with
  | .int m :: r => if σ.1 + 1 < 1000 ∧ (jsh (σ.1 + 1)).1 = e.2.2.2.1.1 ∧ ¬ m < 0 ∧ m.toNatClampNeg = (jsh (σ.1 + 1)).2 then jnx e pl (.ref (σ.1 + 1) :: r) (jnew σ) else none
  | _ => none
/-- a call: c the class of the receiver, 0 for a static method, 99 for Object's constructor -/
def jcall (e : jE) (pl : jPL) (st : List Value) (σ : jS) : Option jO := match e.2.2.2.1.2.2.1 with
  | 0 => if e.2.2.2.1.2.1 ≤ st.length ∧ ((st.drop e.2.2.2.1.2.1).map fun v => v.category).sum ≤ 8 then some (.inr (.inr (e.2.2.2.1.1, (st.take e.2.2.2.1.2.1).reverse, st.drop e.2.2.2.1.2.1))) else none
  | 99 => match st with
    | .ref o :: r => if o = 0 ∨ ¬ (r.map fun v => v.category).sum ≤ 8 then none else jnx e pl r σ
    | _ => none
  | c => match st.drop e.2.2.2.1.2.1 with
    | .ref o :: r => if jcl σ.1 o = c ∧ (r.map fun v => v.category).sum ≤ 8 then some (.inr (.inr (e.2.2.2.1.1, .ref o :: (st.take e.2.2.2.1.2.1).reverse, r))) else none
    | _ => none
def jret (e : jE) (st : List Value) : Option jO := match st with
  | [.int v] => if e.2.2.2.1.1 = 0 ∨ (e.2.2.2.1.1 = 1 ∧ (v = 0 ∨ v = 1)) then some (.inr (.inl (some (.int v)))) else none
  | _ => none
def jretl (st : List Value) : Option jO := match st with
  | [.long v] => some (.inr (.inl (some (.long v))))
  | _ => none
def jreta (st : List Value) : Option jO := match st with
  | [.ref v] => some (.inr (.inl (some (.ref v))))
  | _ => none
def jretv (st : List Value) : Option jO := match st with
  | [] => some (.inr (.inl none))
  | _ => none
def jstep (X : jX) (e : jE) (pl : jPL) (st : List Value) (σ : jS) : Option jO := match e.2.1 with
  | .iload_n k => jldi k.val e pl st σ
  | .iload i => jldi i e pl st σ
  | .lload_n k => jldl k.val e pl st σ
  | .lload i => jldl i e pl st σ
  | .aload_n k => jlda k.val e pl st σ
  | .aload i => jlda i e pl st σ
  | .istore_n k => jsti k.val e pl st σ
  | .istore i => jsti i e pl st σ
  | .lstore_n k => jstl k.val e pl st σ
  | .lstore i => jstl i e pl st σ
  | .astore_n k => jsta k.val e pl st σ
  | .astore i => jsta i e pl st σ
  | .iinc i _ => jinc i e.2.2.2.2.1 e pl st σ
  | .iconst _ => jnx e pl (.int e.2.2.2.2.1 :: st) σ
  | .bipush _ => jnx e pl (.int e.2.2.2.2.1 :: st) σ
  | .sipush _ => jnx e pl (.int e.2.2.2.2.1 :: st) σ
  | .ldc _ => jnx e pl (.int e.2.2.2.2.1 :: st) σ
  | .ldc_w _ => jnx e pl (.int e.2.2.2.2.1 :: st) σ
  | .lconst _ => jnx e pl (.long e.2.2.2.2.2.1 :: st) σ
  | .ldc2_w _ => jnx e pl (.long e.2.2.2.2.2.1 :: st) σ
  | .iadd => jo2 (fun x y => x + y) e pl st σ
  | .isub => jo2 (fun x y => x - y) e pl st σ
  | .imul => jo2 (fun x y => x * y) e pl st σ
  | .iand => jo2 (fun x y => x &&& y) e pl st σ
  | .ior => jo2 (fun x y => x ||| y) e pl st σ
  | .ixor => jo2 (fun x y => x ^^^ y) e pl st σ
  | .ishl => jo2 (fun x y => x <<< (y &&& 31)) e pl st σ
  | .ishr => jo2 (fun x y => x >>> (y &&& 31)) e pl st σ
  | .iushr => jo2 (fun x y => (x.toUInt32 >>> (y.toUInt32 &&& Int32.toUInt32 31)).toInt32) e pl st σ
  | .idiv => jo2d (fun x y => x / y) e pl st σ
  | .irem => jo2d (fun x y => x - x / y * y) e pl st σ
  | .ladd => jL2 (fun x y => x + y) e pl st σ
  | .lsub => jL2 (fun x y => x - y) e pl st σ
  | .lmul => jL2 (fun x y => x * y) e pl st σ
  | .land => jL2 (fun x y => x &&& y) e pl st σ
  | .lxor => jL2 (fun x y => x ^^^ y) e pl st σ
  | .ldiv => jL2d (fun x y => x / y) e pl st σ
  | .lrem => jL2d (fun x y => x - x / y * y) e pl st σ
  | .lcmp => jlc e pl st σ
  | .i2l => jcv1 e pl st σ
  | .l2i => jcv2 e pl st σ
  | .ifCond c _ => jif1 c e pl st σ
  | .if_icmp c _ => jif2 c e pl st σ
  | .goto _ => jgo e.2.2.2.1.1 pl st σ
  | .tableswitch _ _ _ _ => jsw e pl st σ
  | .lookupswitch _ _ => jsw e pl st σ
  | .dup => jdup e pl st σ
  | .dup2 => jdup2 e pl st σ
  | .pop => jpop e pl st σ
  | .getfield _ => jget e pl st σ
  | .putfield _ => jput e pl st σ
  | .getstatic _ => jgst e pl st σ
  | .arraylength => jal X e pl st σ
  | .iaload => jiald X e pl st σ
  | .laload => jlald e pl st σ
  | .caload => jcald e pl st σ
  | .aaload => jaald e pl st σ
  | .iastore => jiast e pl st σ
  | .lastore => jlast e pl st σ
  | .castore => jcast e pl st σ
  | .aastore => jaast e pl st σ
  | .new _ => jnob e pl st σ
  | .newarray _ => jnar e pl st σ
  | .anewarray _ => jnar e pl st σ
  | .invokevirtual _ => jcall e pl st σ
  | .invokespecial _ => jcall e pl st σ
  | .invokestatic _ => jcall e pl st σ
  | .ireturn => jret e st
  | .lreturn => jretl st
  | .areturn => jreta st
  | .return_ => jretv st
  | _ => none
def jfe (es : List jE) (pc : Nat) : Option jE := es.find? (fun e => e.1 == pc)
def jent (vs : List Value) (n : Nat) : jPL := let l := vs.flatMap (fun v => if v.category = 2 then [some v, none] else [some v]); l ++ List.replicate (n - l.length) none
def px (P : List jM) (X : jX) : Nat → Nat → List jE → Nat → jPL → List Value → jS → Option (Option Value × jS)
  | 0, _, _, _, _, _, _ => none
  | n + 1, d, es, pc, pl, st, σ => match jfe es pc with
    | none => none
    | some e => match jstep X e pl st σ with
      | none => none
      | some (.inl (pc', pl', st', σ')) => px P X n d es pc' pl' st' σ'
      | some (.inr (.inl r)) => some (r, σ)
      | some (.inr (.inr (mi, vs, rest))) => match d with
        | 0 => none
        | d' + 1 => match P[mi]? with
          | none => none
          | some M => if (jent vs M.2.2.1).length = M.2.2.1 then match px P X n d' M.2.2.2.2.2 0 (jent vs M.2.2.1) [] σ with
              | none => none
              | some (r, σ1) => px P X n (d' + 1) es (pc + 3) pl (r.toList ++ rest) σ1
            else none
