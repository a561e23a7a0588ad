/-! Names and fields of the system, what is checked of each row of code, and the world: which heap a pure state stands for -/
def jCl : List String := ["AndGuest", "AndGuest$Tape", "AndGuest$Reader", "AndGuest$PlanReader", "AndGuest$Formula", "AndGuest$Standing", "AndGuest$Past", "AndGuest$Party", "AndGuest$Crowd", "AndGuest$Plan", "AndGuest$Choices", "AndGuestModel"]
def jFl : List (List (String × String × String × Bool)) := [
  [("AndGuest", "tape", "LAndGuest$Tape;", true), ("AndGuest", "picture", "LAndGuest$Tape;", true), ("AndGuest", "reader", "LAndGuest$Reader;", true), ("AndGuest", "planReader", "LAndGuest$PlanReader;", true), ("AndGuest", "question", "LAndGuest$Formula;", true), ("AndGuest", "standing", "LAndGuest$Standing;", true), ("AndGuest", "spare", "LAndGuest$Standing;", true), ("AndGuest", "past", "LAndGuest$Past;", true), ("AndGuest", "party", "LAndGuest$Party;", true), ("AndGuest", "choices", "LAndGuest$Choices;", true), ("AndGuest", "refused", "[I", true), ("AndGuest", "draft", "LAndGuest$Plan;", false), ("AndGuest", "told", "Z", false), ("AndGuest", "drawn", "I", false), ("AndGuest", "latestFault", "I", false), ("AndGuest", "latestPlace", "I", false)],
  [("AndGuest$Tape", "bytes", "[I", true), ("AndGuest$Tape", "length", "I", false)],
  [("AndGuest$Reader", "text", "LAndGuest$Tape;", true), ("AndGuest$Reader", "start", "I", false), ("AndGuest$Reader", "after", "I", false), ("AndGuest$Reader", "kind", "I", false), ("AndGuest$Reader", "value", "I", false), ("AndGuest$Reader", "fault", "I", false), ("AndGuest$Reader", "place", "I", false)],
  [("AndGuest$PlanReader", "reader", "LAndGuest$Reader;", true)],
  [("AndGuest$Formula", "steps", "[I", true), ("AndGuest$Formula", "stack", "[I", true), ("AndGuest$Formula", "length", "I", false), ("AndGuest$Formula", "asking", "Z", false)],
  [("AndGuest$Standing", "week", "I", false), ("AndGuest$Standing", "first", "I", false), ("AndGuest$Standing", "how", "[I", true), ("AndGuest$Standing", "behind", "[I", true)],
  [("AndGuest$Past", "rows", "[LAndGuest$Standing;", true), ("AndGuest$Past", "count", "I", false)],
  [("AndGuest$Party", "standing", "LAndGuest$Standing;", true), ("AndGuest$Party", "crowd", "LAndGuest$Crowd;", true), ("AndGuest$Party", "facts", "[I", true), ("AndGuest$Party", "cardOffence", "[I", true), ("AndGuest$Party", "plan", "LAndGuest$Plan;", false)],
  [("AndGuest$Crowd", "weights", "[J", true), ("AndGuest$Crowd", "most", "I", false)],
  [("AndGuest$Plan", "guests", "I", false), ("AndGuest$Plan", "pullsTold", "I", false), ("AndGuest$Plan", "hearsTold", "I", false), ("AndGuest$Plan", "seats", "I", false), ("AndGuest$Plan", "bench", "I", false), ("AndGuest$Plan", "plate", "I", false), ("AndGuest$Plan", "lack", "I", false), ("AndGuest$Plan", "maybe", "I", false), ("AndGuest$Plan", "soon", "I", false), ("AndGuest$Plan", "more", "I", false), ("AndGuest$Plan", "names", "[I", true), ("AndGuest$Plan", "comes", "[I", true), ("AndGuest$Plan", "joys", "[I", true), ("AndGuest$Plan", "sizes", "[I", true), ("AndGuest$Plan", "slights", "[I", true), ("AndGuest$Plan", "pulled", "[I", true), ("AndGuest$Plan", "heard", "[I", true), ("AndGuest$Plan", "farSets", "[I", true), ("AndGuest$Plan", "late", "LAndGuest$Formula;", true)],
  [("AndGuest$Choices", "party", "LAndGuest$Party;", true), ("AndGuest$Choices", "bestWorth", "J", false), ("AndGuest$Choices", "safeSet", "I", false), ("AndGuest$Choices", "safeOffence", "I", false), ("AndGuest$Choices", "safeJoy", "I", false), ("AndGuest$Choices", "ringCost", "J", false)],
  [("AndGuestModel", "tape", "[I", true), ("AndGuestModel", "taped", "I", false), ("AndGuestModel", "at", "I", false), ("AndGuestModel", "end", "I", false), ("AndGuestModel", "ended", "I", false), ("AndGuestModel", "bad", "I", false), ("AndGuestModel", "badPlace", "I", false), ("AndGuestModel", "fault", "I", false), ("AndGuestModel", "faultPlace", "I", false), ("AndGuestModel", "refused", "[I", true), ("AndGuestModel", "seatsWord", "[C", true), ("AndGuestModel", "benchWord", "[C", true), ("AndGuestModel", "plateWord", "[C", true), ("AndGuestModel", "lackWord", "[C", true), ("AndGuestModel", "guestWord", "[C", true), ("AndGuestModel", "comesWord", "[C", true), ("AndGuestModel", "joyWord", "[C", true), ("AndGuestModel", "withWord", "[C", true), ("AndGuestModel", "slightWord", "[C", true), ("AndGuestModel", "pullsWord", "[C", true), ("AndGuestModel", "hearsWord", "[C", true), ("AndGuestModel", "lateWord", "[C", true), ("AndGuestModel", "maybeWord", "[C", true), ("AndGuestModel", "soonWord", "[C", true), ("AndGuestModel", "moreWord", "[C", true), ("AndGuestModel", "weeksWord", "[C", true), ("AndGuestModel", "sizeWord", "[C", true), ("AndGuestModel", "numberWord", "[C", true), ("AndGuestModel", "howWord", "[C", true), ("AndGuestModel", "orWord", "[C", true), ("AndGuestModel", "andWord", "[C", true), ("AndGuestModel", "notWord", "[C", true), ("AndGuestModel", "allWord", "[C", true), ("AndGuestModel", "minWord", "[C", true), ("AndGuestModel", "maxWord", "[C", true), ("AndGuestModel", "namePlace", "I", false), ("AndGuestModel", "many", "[I", true), ("AndGuestModel", "names", "[J", true), ("AndGuestModel", "hall", "[I", true), ("AndGuestModel", "guests", "[I", true), ("AndGuestModel", "pulled", "[I", true), ("AndGuestModel", "heard", "[I", true), ("AndGuestModel", "settings", "[I", true), ("AndGuestModel", "sumFrom", "[I", true), ("AndGuestModel", "sumEnd", "[I", true), ("AndGuestModel", "codes", "[I", true), ("AndGuestModel", "coded", "I", false), ("AndGuestModel", "statements", "I", false), ("AndGuestModel", "isWedding", "Z", false), ("AndGuestModel", "inLate", "Z", false), ("AndGuestModel", "now", "[I", true), ("AndGuestModel", "aside", "[I", true), ("AndGuestModel", "heads", "[J", true), ("AndGuestModel", "all0", "J", false), ("AndGuestModel", "answered", "[J", true), ("AndGuestModel", "kept0", "[I", true), ("AndGuestModel", "undoable", "I", false), ("AndGuestModel", "newest", "I", false), ("AndGuestModel", "seeded", "J", false), ("AndGuestModel", "firstAsked", "[C", true), ("AndGuestModel", "lastAsked", "[C", true), ("AndGuestModel", "oftenAsked", "[C", true), ("AndGuestModel", "totalAsked", "[C", true), ("AndGuestModel", "mostAsked", "[C", true), ("AndGuestModel", "leastAsked", "[C", true), ("AndGuestModel", "notAsked", "[C", true), ("AndGuestModel", "andAsked", "[C", true), ("AndGuestModel", "orAsked", "[C", true), ("AndGuestModel", "allAsked", "[C", true), ("AndGuestModel", "minAsked", "[C", true), ("AndGuestModel", "maxAsked", "[C", true), ("AndGuestModel", "weeksAsked", "[C", true), ("AndGuestModel", "slightAsked", "[C", true), ("AndGuestModel", "joyAsked", "[C", true), ("AndGuestModel", "sizeAsked", "[C", true), ("AndGuestModel", "numberAsked", "[C", true), ("AndGuestModel", "howAsked", "[C", true), ("AndGuestModel", "comesAsked", "[C", true), ("AndGuestModel", "pullsAsked", "[C", true), ("AndGuestModel", "qCodes", "[I", true), ("AndGuestModel", "qCoded", "I", false), ("AndGuestModel", "qWait", "[I", true), ("AndGuestModel", "qWaits", "I", false), ("AndGuestModel", "qOpened", "I", false), ("AndGuestModel", "qBase", "I", false), ("AndGuestModel", "qPile", "[J", true), ("AndGuestModel", "qPiled", "I", false), ("AndGuestModel", "qAnswer", "J", false), ("AndGuestModel", "qIsNew", "Z", false), ("AndGuestModel", "octet", "[I", true), ("AndGuestModel", "octets", "I", false)]]
def jKl : List (List Nat) := [
  [2, 2, 2, 2, 2, 2, 2, 2, 2, 2, 2, 2, 4, 0, 0, 0],
  [2, 0],
  [2, 0, 0, 0, 0, 0, 0],
  [2],
  [2, 2, 0, 4],
  [0, 0, 2, 2],
  [2, 0],
  [2, 2, 2, 2, 2],
  [2, 0],
  [0, 0, 0, 0, 0, 0, 0, 0, 0, 0, 2, 2, 2, 2, 2, 2, 2, 2, 2],
  [2, 1, 0, 0, 0, 1],
  [2, 0, 0, 0, 0, 0, 0, 0, 0, 2, 2, 2, 2, 2, 2, 2, 2, 2, 2, 2, 2, 2, 2, 2, 2, 2, 2, 2, 2, 2, 2, 2, 2, 2, 2, 0, 2, 2, 2, 2, 2, 2, 2, 2, 2, 2, 0, 0, 4, 4, 2, 2, 2, 1, 2, 2, 0, 0, 1, 2, 2, 2, 2, 2, 2, 2, 2, 2, 2, 2, 2, 2, 2, 2, 2, 2, 2, 2, 2, 2, 0, 2, 0, 0, 0, 2, 0, 1, 4, 2, 0]]
def jPl : List (List Nat) := [
  [451, 453, 455, 457, 459, 461, 463, 465, 467, 469, 471, 473, 475, 477, 479, 481],
  [156, 158],
  [178, 180, 182, 184, 186, 188, 190],
  [200],
  [213, 215, 217, 219],
  [238, 240, 242, 244],
  [258, 260],
  [397, 399, 401, 403, 405],
  [277, 279],
  [353, 355, 357, 359, 361, 363, 365, 367, 369, 371, 373, 375, 377, 379, 381, 383, 385, 387, 389],
  [420, 422, 424, 426, 428, 430],
  [1565, 1567, 1569, 1571, 1573, 1575, 1577, 1579, 1581, 1583, 1585, 1587, 1589, 1591, 1593, 1595, 1597, 1599, 1601, 1603, 1605, 1607, 1609, 1611, 1613, 1615, 1617, 1619, 1621, 1623, 1625, 1627, 1629, 1631, 1633, 1635, 1637, 1639, 1641, 1643, 1645, 1647, 1649, 1651, 1653, 1655, 1657, 1659, 1661, 1663, 1665, 1667, 1669, 1671, 1673, 1675, 1677, 1679, 1681, 1683, 1685, 1687, 1689, 1691, 1693, 1695, 1697, 1699, 1701, 1703, 1705, 1707, 1709, 1711, 1713, 1715, 1717, 1719, 1721, 1723, 1725, 1727, 1729, 1731, 1733, 1735, 1737, 1739, 1741, 1743, 1745]]
def jEn : List String := ["SEATS", "BENCH", "PLATE", "LACK", "GUEST", "COMES", "JOY", "WITH", "SLIGHT", "PULLS", "HEARS", "LATE", "MAYBE", "SOON", "MORE", "WEEKS", "SIZE", "NUMBER", "HOW", "OR", "AND", "NOT", "ALL", "MIN", "MAX", "FIRST", "LAST", "OFTEN", "TOTAL", "MOST", "LEAST"]
def jIn : List Nat := [138, 146, 166, 194, 204, 223, 248, 264, 270, 284, 409, 1317]
def jIc : List Nat := [121, 122, 125, 126, 127, 124, 128, 129, 130, 131, 132, 133]
def jC (c : Nat) : String := jCl.getD c ""
def jN (c : Nat) : Nat := (jFl.getD c []).length
def jF (c : Nat) : u_T := fun k => (jFl.getD c []).getD k ("", "", "", false)
def jkd (c k : Nat) : Nat := (jKl.getD c []).getD k 0
def jty (c k : Nat) : FieldType := (parseFieldDescriptor (jF c k).2.2.1).getD .int
def jnm (i : Nat) : String := jEn.getD i ""
abbrev jcls : List vw_C := (List.range 12).map (fun c => (jC c, jF c, jN c))
theorem jcls_at {c : Nat} (h : c < 12) : jcls[c]? = some (jC c, jF c, jN c) := by
  simp [jcls, h]
theorem jIn_ok : (List.range 12).all (fun c => decide (lw_tbl[jIn.getD c 0]? = some (Jvm.Cond.instantiable (jC c) (jN c)))) = true := by decide +kernel
theorem jIc_ok : (List.range 12).all (fun c => decide (lw_tbl[jIc.getD c 0]? = some (Jvm.Cond.initialized (jC c)))) = true := by decide +kernel
theorem jPl_ok : (List.range 12).all (fun c => (List.range (jN c)).all (fun k => decide (lw_tbl[(jPl.getD c []).getD k 0]? = some (u_lay (jC c) (jF c) k)))) = true := by decide +kernel
def jtk (k : Nat) (t : FieldType) : Bool := match k, t with
  | 0, .int => true
  | 1, .long => true
  | 4, .boolean => true
  | 2, .object _ => true
  | 2, .array _ => true
  | _, _ => false
theorem jty_ok : (List.range 12).all (fun c => (List.range (jN c)).all (fun k => decide (parseFieldDescriptor (jF c k).2.2.1 = some (jty c k)) && jtk (jkd c k) (jty c k))) = true := by decide +kernel
theorem jnm_ok : (List.range 12).all (fun c => (List.range (jN c)).all (fun a => (List.range (jN c)).all (fun b => a == b || !((jF c a).2.1 == (jF c b).2.1)))) = true := by decide +kernel
def jisA (w : Jvm.Cond) : Bool := match w with
  | .arrayClass _ => true
  | _ => false
def jgd (w : Jvm.Cond) : Bool := (w.onTables && w.keeps) || jisA w
/-- the words that stay true from call to call -/
def jtb : List Jvm.Cond := lw_tbl.filter jgd
theorem jin_tbl {i : Nat} {w : Jvm.Cond} (h : lw_tbl[i]? = some w) (hg : jgd w = true := by rfl) : w ∈ jtb := List.mem_filter.mpr ⟨List.mem_of_getElem? h, hg⟩
theorem jgood {w : Jvm.Cond} (h : w ∈ jtb) : (w.onTables && w.keeps) = true ∨ ∃ ty, w = .arrayClass ty := by
  have h := (List.mem_filter.mp h).2
  simp only [jgd, Bool.or_eq_true] at h
  rcases h with h | h
  · exact Or.inl h
  · unfold jisA at h
    split at h
    · exact Or.inr ⟨_, rfl⟩
    · cases h
theorem jall {n : Nat} {f : Nat → Bool} (h : (List.range n).all f = true) {k : Nat} (hk : k < n) : f k = true := List.all_eq_true.mp h k (List.mem_range.mpr hk)
theorem jinst {c : Nat} (h : c < 12) : Jvm.Cond.instantiable (jC c) (jN c) ∈ jtb := jin_tbl (of_decide_eq_true (jall jIn_ok h))
theorem jinit {c : Nat} (h : c < 12) : Jvm.Cond.initialized (jC c) ∈ jtb := jin_tbl (of_decide_eq_true (jall jIc_ok h))
theorem jws {c : Nat} (h : c < 12) : ∀ w ∈ u_ws (jC c) (jF c) (jN c), w ∈ jtb := by
  intro w hw
  obtain ⟨k, hk, rfl⟩ := List.mem_map.mp hw
  exact jin_tbl (of_decide_eq_true (jall (jall jPl_ok h) (List.mem_range.mp hk))) (by unfold u_lay; split <;> rfl)
theorem jtyp {c : Nat} (h : c < 12) : ∀ k, k < jN c → parseFieldDescriptor (jF c k).2.2.1 = some (jty c k) := fun k hk => by
  have := jall (jall jty_ok h) hk
  simp only [Bool.and_eq_true] at this
  exact of_decide_eq_true this.1
theorem jtyk {c : Nat} (h : c < 12) {k : Nat} (hk : k < jN c) : jtk (jkd c k) (jty c k) = true := by
  have := jall (jall jty_ok h) hk
  simp only [Bool.and_eq_true] at this
  exact this.2
theorem jnmd {c : Nat} (h : c < 12) : ∀ a, a < jN c → ∀ b, b < jN c → a ≠ b → (jF c a).2.1 ≠ (jF c b).2.1 := fun a ha b hb hab he => by
  have := jall (jall (jall jnm_ok h) ha) hb
  simp [hab, he] at this
-- what is checked of a row of code
abbrev jSg : Type := MethodName × ByteArray × Nat × Option FieldType × (Nat × Bool × Nat)
def jW3 (_ : Nat) (x : Jvm.Cond) : Bool := decide (x ∈ jtb)
theorem jW3_in {w : Nat} {x : Jvm.Cond} (h : jW3 w x = true) : x ∈ jtb := of_decide_eq_true h
def jswt (pc : Nat) (lo : Int) : List Int → List (Int32 × Nat) → Bool
  | [], [] => true
  | o :: os, (k, t) :: r => decide ((pc : Int) + o = (t : Int)) && (decide (k.toInt = lo) && jswt pc (lo + 1) os r)
  | _, _ => false
def jswo (pc : Nat) : List (Int × Int) → List (Int32 × Nat) → Bool
  | [], [] => true
  | (a, o) :: os, (k, t) :: r => decide ((pc : Int) + o = (t : Int)) && (decide (k.toInt = a) && jswo pc os r)
  | _, _ => false
def jokF (own : String) (i a b c w : Nat) : Bool := decide (1 ≤ a ∧ a ≤ 12 ∧ b < jN (a - 1) ∧ c = jkd (a - 1) b) && jW3 w (.fieldLink own i (jF (a - 1) b).1 (jF (a - 1) b).2.1 (jF (a - 1) b).2.2.1)
def jokI (S : List jSg) (own : String) (ini : Bool) (ret : Option FieldType) (e : jE) : Bool := match e with
  | (pc, ins, len, (a, b, c, w), (iv, lv, sw)) => match ins with
    | .iload _ => len == 2
    | .lload _ => len == 2
    | .aload _ => len == 2
    | .istore _ => len == 2
    | .lstore _ => len == 2
    | .astore _ => len == 2
    | .iinc _ v => len == 3 && decide (Int32.ofInt v = iv)
    | .iconst n => len == 1 && decide (Int32.ofInt n = iv)
    | .bipush n => len == 2 && decide ((Int8.ofInt n).toInt32 = iv)
    | .sipush n => len == 3 && decide ((Int16.ofInt n).toInt32 = iv)
    | .ldc i => len == 2 && jW3 w (.constant own i iv)
    | .ldc_w i => len == 3 && jW3 w (.constant own i iv)
    | .lconst n => len == 1 && decide (Int64.ofNat n.val = lv)
    | .ldc2_w i => len == 3 && jW3 w (.constantLong own i lv)
    | .ifCond _ off => len == 3 && decide ((pc : Int) + off = (a : Int))
    | .if_icmp _ off => len == 3 && decide ((pc : Int) + off = (a : Int))
    | .goto off => len == 3 && decide ((pc : Int) + off = (a : Int))
    | .tableswitch d lo hi offs => decide ((pc : Int) + d = (a : Int)) && (decide (lo + offs.size = hi + 1) && (decide (-2147483648 ≤ lo ∧ hi < 2147483648) && jswt pc lo offs.toList sw))
    | .lookupswitch d ps => decide ((pc : Int) + d = (a : Int)) && ((ps.toList.zip (ps.toList.drop 1)).all (fun (x, next) => x.1 < next.1) && jswo pc ps.toList sw)
    | .getfield i => len == 3 && (jokF own i a b c w || (decide (a = 13 ∧ c = 3) && ((b == 0 && jW3 w (.fieldLink own i "AndGuest$Word" "code" "I")) || (b == 1 && jW3 w (.fieldLink own i "AndGuest$Word" "own" "Z")))))
    | .putfield i => len == 3 && (jokF own i a b c w && (!(jF (a - 1) b).2.2.2 || (ini && decide ((jF (a - 1) b).1 = own))))
    | .getstatic i => len == 3 && ((decide (a < 31) && jW3 w (.fieldLink own i "AndGuest$Word" (jnm a) "LAndGuest$Word;")) || (a == 31 && jW3 w (.fieldLink own i "AndGuest$Word" "WORDS" "[LAndGuest$Word;")))
    | .new i => len == 3 && (decide (1 ≤ a ∧ a ≤ 12) && jW3 w (.classLink own i (jC (a - 1))))
    | .newarray t => len == 2 && (match t with | .int => a == 20 | .long => a == 21 | .char => a == 22 | _ => false)
    | .anewarray i => len == 3 && (a == 23 && jW3 w (.classLink own i "AndGuest$Standing"))
    | .invokevirtual i => len == 3 && (decide (1 ≤ c ∧ c ≤ 12) && (match S[a]? with
        | some y => !y.2.2.2.2.2.1 && (y.2.2.2.2.1 == b && (decide (y.1.cls = jC (c - 1)) && (decide (y.1.name ≠ "<init>") && jW3 w (.methodLink own i y.1))))
        | none => false))
    | .invokespecial i => len == 3 && ((c == 99 && jW3 w (.methodLink own i Lib.objectInit)) || (decide (1 ≤ c ∧ c ≤ 12) && (match S[a]? with
        | some y => !y.2.2.2.2.2.1 && (y.2.2.2.2.1 == b && (decide (y.1.name = "<init>") && (decide (y.2.2.2.1 = none) && jW3 w (.methodLink own i y.1))))
        | none => false)))
    | .invokestatic i => len == 3 && (c == 0 && (match S[a]? with
        | some y => y.2.2.2.2.2.1 && (y.2.2.2.2.1 == b && jW3 w (.methodLink own i y.1))
        | none => false))
    | .ireturn => len == 1 && ((a == 0 && decide (ret = some .int)) || (a == 1 && decide (ret = some .boolean)))
    | .lreturn => len == 1 && decide (ret = some .long)
    | .areturn => len == 1 && (match ret with | some (.object _) => true | some (.array _) => true | _ => false)
    | .return_ => len == 1 && decide (ret = none)
    | _ => len == 1
def jokE (S : List jSg) (own : String) (cc : ByteArray) (ini : Bool) (ret : Option FieldType) (e : jE) : Bool := decide (decode cc e.1 = .ok (e.2.1, e.2.2.1)) && jokI S own ini ret e
-- the world
abbrev jG : Type := va_G × (Nat → ClassId) × Nat × (Nat → Nat) × Nat × Nat
def jad (G : jG) (o : Nat) : Nat := if o < 1000 then G.2.2.1 + (o - 1) else if o < 1031 then G.2.2.2.1 (o - 1000) else if o = 1031 then G.2.2.2.2.1 else G.2.2.2.2.2
def jcv (G : jG) (v : Value) : Value := match v with
  | .ref o => if o = 0 then .null else .ref (jad G o)
  | .int x => .int x
  | .long x => .long x
  | v => v
def jro (G : jG) (o : Nat) : Option Nat := if o = 0 then none else some (jad G o)
theorem jro_rf (G : jG) (o : Nat) : va_rf (jro G o) = jcv G (.ref o) := by
  by_cases h : o = 0
  · simp [jro, jcv, h, va_rf]
  · simp [jro, jcv, h, va_rf]
theorem jcv_cat (G : jG) (v : Value) : (jcv G v).category = v.category := by
  cases v with
  | ref o => by_cases h : o = 0 <;> simp [jcv, h, Value.category]
  | _ => rfl
def jval (G : jG) (σ : jS) (o c k : Nat) : Value := match jkd c k with
  | 1 => .long (σ.2.2.2 o k)
  | 2 => jcv G (.ref (σ.2.1 o k))
  | _ => .int (σ.2.2.1 o k)
def jfs (G : jG) (σ : jS) (o c : Nat) : List Value := (List.range (jN c)).map (jval G σ o c)
def jcel (G : jG) (σ : jS) (o : Nat) : va_E :=
  if (jsh o).1 = 20 then .inl (G.2.1 20, (jsh o).2, .inl (σ.2.2.1 o))
  else if (jsh o).1 = 21 then .inl (G.2.1 21, (jsh o).2, .inr (.inl (σ.2.2.2 o)))
  else if (jsh o).1 = 22 then .inl (G.2.1 22, (jsh o).2, .inl (σ.2.2.1 o))
  else if (jsh o).1 = 23 then .inl (G.2.1 23, (jsh o).2, .inr (.inr (.inr (.inr (fun k => jro G (σ.2.1 o k))))))
  else .inr ((jsh o).1 - 1, jfs G σ o ((jsh o).1 - 1))
def jwl (G : jG) (σ : jS) : va_W := (List.range σ.1).map (fun j => (G.2.2.1 + j, jcel G σ (j + 1)))
def jA (G : jG) : Nat → Prop := fun q => G.2.2.1 ≤ q
def jWd (G : jG) (σ : jS) (H : Heap) : Prop := H.size = G.2.2.1 + σ.1 ∧ σ.1 < 1000 ∧ va_P G.1 jcls (jwl G σ) H
abbrev jtys (G : jG) : List (ClassId × FieldType) := [(G.2.1 20, .int), (G.2.1 21, .long), (G.2.1 22, .char), (G.2.1 23, .object "AndGuest$Standing")]
/-- what the words and the statics say, at a start U -/
def jK (G : jG) (X : jX) (U : State) : Prop := va_K G.1 jcls (jtys G) U ∧
  (∀ i, i < 31 → va_Z "AndGuest$Word" (jnm i) "LAndGuest$Word;" (.ref (G.2.2.2.1 i)) (jA G) U U.heap ∧ va_OF "AndGuest$Word" "code" "I" (.int (jwcode.getD i 0)) (G.2.2.2.1 i) (jA G) U U.heap ∧ va_OF "AndGuest$Word" "own" "Z" (.int (jwown.getD i 0)) (G.2.2.2.1 i) (jA G) U U.heap) ∧
  va_Z "AndGuest$Word" "WORDS" "[LAndGuest$Word;" (.ref G.2.2.2.2.1) (jA G) U U.heap ∧ va_T (.object "AndGuest$Word") G.2.2.2.2.1 31 (fun j => .ref (G.2.2.2.1 j)) (jA G) U U.heap ∧
  va_X G.2.2.2.2.2 X.1 X.2 U U.heap ∧ G.2.2.2.2.2 < G.2.2.1 ∧ G.2.2.1 ≤ U.heap.size ∧ va_AO "AndGuest$Standing" U
theorem jwl_D (G : jG) (σ : jS) : va_D (jA G) (jwl G σ) := by
  refine ⟨fun i j p q hi hj h => ?_, fun k q hk => ?_⟩
  · simp only [jwl, List.getElem?_map, Option.map_eq_some_iff] at hi hj
    obtain ⟨a, ha, rfl⟩ := hi
    obtain ⟨b, hb, rfl⟩ := hj
    obtain ⟨h1, h2⟩ := List.getElem?_eq_some_iff.mp ha
    obtain ⟨h3, h4⟩ := List.getElem?_eq_some_iff.mp hb
    simp only [List.getElem_range] at h2 h4
    simp only at h
    omega
  · simp only [jwl, List.getElem?_map, Option.map_eq_some_iff] at hk
    obtain ⟨a, ha, rfl⟩ := hk
    exact Nat.le_add_right _ _
theorem jwl_at (G : jG) {σ : jS} {o : Nat} (h0 : o ≠ 0) (h : o ≤ σ.1) (hn : σ.1 < 1000) : (jwl G σ)[o - 1]? = some (jad G o, jcel G σ o) := by
  have h1 : o - 1 < σ.1 := by omega
  simp only [jwl, List.getElem?_map, List.getElem?_range h1, Option.map_some]
  rw [show o - 1 + 1 = o by omega]
  simp only [jad]
  rw [if_pos (by omega)]
theorem jcel_eq (G : jG) {σ τ : jS} {o : Nat} (hI : τ.2.2.1 o = σ.2.2.1 o) (hL : τ.2.2.2 o = σ.2.2.2 o) (hR : τ.2.1 o = σ.2.1 o) : jcel G τ o = jcel G σ o := by
  have hf : ∀ c, jfs G τ o c = jfs G σ o c := fun c => by
    unfold jfs
    congr 1
    funext k
    unfold jval
    rw [hI, hL, hR]
  unfold jcel
  rw [hI, hL, hR, hf]
theorem jwl_set (G : jG) {σ τ : jS} {o : Nat} (h0 : o ≠ 0) (hn : σ.1 < 1000) (h : o ≤ σ.1) (h1 : τ.1 = σ.1) (hI : ∀ q, q ≠ o → τ.2.2.1 q = σ.2.2.1 q) (hL : ∀ q, q ≠ o → τ.2.2.2 q = σ.2.2.2 q) (hR : ∀ q, q ≠ o → τ.2.1 q = σ.2.1 q) :
    (jwl G σ).set (o - 1) (jad G o, jcel G τ o) = jwl G τ := by
  apply List.ext_getElem?
  intro j
  rw [List.getElem?_set]
  by_cases hj : o - 1 = j
  · subst hj
    rw [if_pos rfl, if_pos (by simp [jwl]; omega), jwl_at G h0 (by omega) (by omega)]
  · rw [if_neg hj]
    simp only [jwl, List.getElem?_map, h1]
    by_cases hl : j < σ.1
    · simp only [List.getElem?_range hl, Option.map_some]
      rw [jcel_eq G (hI (j + 1) (by omega)) (hL (j + 1) (by omega)) (hR (j + 1) (by omega))]
    · rw [List.getElem?_eq_none (by simp; omega)]
      rfl
theorem jup_ne {α : Type} (f : Nat → Nat → α) {o k : Nat} (v : α) {q : Nat} (h : q ≠ o) : jup f o k v q = f q := by
  funext j
  simp [jup, h]
theorem jup_row {α : Type} (f : Nat → Nat → α) {o k : Nat} (v : α) (j : Nat) : jup f o k v o j = if j = k then v else f o j := by
  simp [jup]
theorem jwl_app (G : jG) {σ τ : jS} (h1 : τ.1 = σ.1 + 1) (hI : ∀ q, q ≠ τ.1 → τ.2.2.1 q = σ.2.2.1 q) (hL : ∀ q, q ≠ τ.1 → τ.2.2.2 q = σ.2.2.2 q) (hR : ∀ q, q ≠ τ.1 → τ.2.1 q = σ.2.1 q) :
    jwl G σ ++ [(G.2.2.1 + σ.1, jcel G τ τ.1)] = jwl G τ := by
  simp only [jwl, h1, List.range_succ, List.map_append, List.map_cons, List.map_nil]
  congr 1
  apply List.map_congr_left
  intro j hj
  have hj := List.mem_range.mp hj
  rw [jcel_eq G (hI (j + 1) (by omega)) (hL (j + 1) (by omega)) (hR (j + 1) (by omega))]
/-- a store into one cell -/
theorem jWd_set {G : jG} {σ τ : jS} {H H1 : Heap} {o : Nat} (hW : jWd G σ H) (h0 : o ≠ 0) (h : o ≤ σ.1) (h1 : τ.1 = σ.1) (hI : ∀ q, q ≠ o → τ.2.2.1 q = σ.2.2.1 q) (hL : ∀ q, q ≠ o → τ.2.2.2 q = σ.2.2.2 q) (hR : ∀ q, q ≠ o → τ.2.1 q = σ.2.1 q)
    (he : va_at G.1 jcls (jad G o, jcel G τ o) H1) (hz : H1.size = H.size) (oq : ∀ q : Nat, q ≠ jad G o → H1[q]? = H[q]?) : jWd G τ H1 := by
  refine ⟨by rw [hz, hW.1, h1], by rw [h1]; exact hW.2.1, ?_⟩
  have := hW.2.2.set (jwl_D G σ) (jwl_at G h0 h hW.2.1) he oq
  rwa [jwl_set G h0 hW.2.1 h h1 hI hL hR] at this
theorem jcl_obj {n o a : Nat} (h : jcl n o = a) (ha : a ≠ 0) (hn : n < 1000) (h13 : a ≠ 13) (h24 : a ≠ 24) (h25 : a ≠ 25) : o ≠ 0 ∧ o ≤ n ∧ (jsh o).1 = a := by
  unfold jcl at h
  split at h
  · next q =>
    refine ⟨?_, q, h⟩
    rintro rfl
    have : (jsh 0).1 = 0 := by decide +kernel
    omega
  · split at h
    · omega
    · split at h
      · omega
      · split at h
        · omega
        · split at h
          · omega
          · omega

