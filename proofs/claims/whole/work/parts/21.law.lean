/-! The law: its calls, one after the other, out of one fact for each kind of call -/
def jcal_0 (I : Nat → Nat → (Nat → Nat) → jH → Prop) : Prop := ∀ {p d : Nat} {q : Nat → Nat} {h : jH} (a0 a1 a2 a3 a4 : Int32), I p d q h → ∃ zA : Int32 × jH, fA_feed a0 a1 a2 a3 a4 h = some zA ∧ ∃ zM : Int32 × jH, fM_feed a0 a1 a2 a3 a4 zA.2 = some zM ∧ zA.1 = zM.1 ∧ I p d q zM.2
def jcal_1 (I : Nat → Nat → (Nat → Nat) → jH → Prop) : Prop := ∀ {p d : Nat} {q : Nat → Nat} {h : jH} (a0 : Int32), I p d q h → ∃ zA : Int32 × jH, fA_end a0 h = some zA ∧ ∃ zM : Int32 × jH, fM_end a0 zA.2 = some zM ∧ zA.1 = zM.1 ∧ I p d q zM.2
def jcal_2 (I : Nat → Nat → (Nat → Nat) → jH → Prop) : Prop := ∀ {p d : Nat} {q : Nat → Nat} {h : jH}, I p d q h → ∃ zA : Int32 × Nat × Nat × jH, fA_wedding p d h = some zA ∧ ∃ zM : Int32 × jH, fM_wedding zA.2.2.2 = some zM ∧ zA.1 = zM.1 ∧ I zA.2.1 zA.2.2.1 q zM.2
def jcal_3 (I : Nat → Nat → (Nat → Nat) → jH → Prop) : Prop := ∀ {p d : Nat} {q : Nat → Nat} {h : jH} (a0 : Int32), I p d q h → ∃ zA : Int32, fA_fault a0 h = zA ∧ ∃ zM : Int32, fM_fault a0 h = zM ∧ zA = zM ∧ I p d q h
def jcal_4 (I : Nat → Nat → (Nat → Nat) → jH → Prop) : Prop := ∀ {p d : Nat} {q : Nat → Nat} {h : jH} (a0 : Int32), I p d q h → ∃ zA : Int32, fA_has p a0 h = some zA ∧ ∃ zM : Int32, fM_has a0 h = some zM ∧ zA = zM ∧ I p d q h
def jcal_5 (I : Nat → Nat → (Nat → Nat) → jH → Prop) : Prop := ∀ {p d : Nat} {q : Nat → Nat} {h : jH} (a0 a1 : Int32), I p d q h → ∃ zA : Int32, fA_letter p a0 a1 h = some zA ∧ ∃ zM : Int32, fM_letter a0 a1 h = some zM ∧ zA = zM ∧ I p d q h
def jcal_6 (I : Nat → Nat → (Nat → Nat) → jH → Prop) : Prop := ∀ {p d : Nat} {q : Nat → Nat} {h : jH} (a0 a1 : Int32), I p d q h → ∃ zA : Int32 × jH, fA_guest p a0 a1 h = some zA ∧ ∃ zM : Int32 × jH, fM_guest a0 a1 zA.2 = some zM ∧ zA.1 = zM.1 ∧ I p d q zM.2
def jcal_7 (I : Nat → Nat → (Nat → Nat) → jH → Prop) : Prop := ∀ {p d : Nat} {q : Nat → Nat} {h : jH} (a0 : Int32), I p d q h → ∃ zA : Int32, fA_far p a0 h = some zA ∧ ∃ zM : Int32, fM_far a0 h = some zM ∧ zA = zM ∧ I p d q h
def jcal_8 (I : Nat → Nat → (Nat → Nat) → jH → Prop) : Prop := ∀ {p d : Nat} {q : Nat → Nat} {h : jH} (a0 : Int32), I p d q h → ∃ zA : Int32 × jH, fA_odds p a0 h = some zA ∧ ∃ zM : Int32 × jH, fM_odds a0 zA.2 = some zM ∧ zA.1 = zM.1 ∧ I p d q zM.2
def jcal_9 (I : Nat → Nat → (Nat → Nat) → jH → Prop) : Prop := ∀ {p d : Nat} {q : Nat → Nat} {h : jH} (a0 : Int32), I p d q h → ∃ zA : Int32 × jH, fA_above p a0 h = some zA ∧ ∃ zM : Int32 × jH, fM_above a0 zA.2 = some zM ∧ zA.1 = zM.1 ∧ I p d q zM.2
def jcal_10 (I : Nat → Nat → (Nat → Nat) → jH → Prop) : Prop := ∀ {p d : Nat} {q : Nat → Nat} {h : jH} (a0 : Int32), I p d q h → ∃ zA : Int32, fA_answers p a0 h = some zA ∧ ∃ zM : Int32 × jH, fM_answers a0 h = some zM ∧ zA = zM.1 ∧ I p d q zM.2
def jcal_11 (I : Nat → Nat → (Nat → Nat) → jH → Prop) : Prop := ∀ {p d : Nat} {q : Nat → Nat} {h : jH}, I p d q h → ∃ zA : Int32, fA_mean p h = some zA ∧ ∃ zM : Int32, fM_mean h = some zM ∧ zA = zM ∧ I p d q h
def jcal_12 (I : Nat → Nat → (Nat → Nat) → jH → Prop) : Prop := ∀ {p d : Nat} {q : Nat → Nat} {h : jH}, I p d q h → ∃ zA : Int64 × jH, fA_worth p h = some zA ∧ ∃ zM : Int64 × jH, fM_worth zA.2 = some zM ∧ zA.1 = zM.1 ∧ I p d q zM.2
def jcal_13 (I : Nat → Nat → (Nat → Nat) → jH → Prop) : Prop := ∀ {p d : Nat} {q : Nat → Nat} {h : jH} (a0 : Int32), I p d q h → ∃ zA : Int64 × jH, fA_would p a0 h = some zA ∧ ∃ zM : Int64 × jH, fM_would a0 zA.2 = some zM ∧ zA.1 = zM.1 ∧ I p d q zM.2
def jcal_14 (I : Nat → Nat → (Nat → Nat) → jH → Prop) : Prop := ∀ {p d : Nat} {q : Nat → Nat} {h : jH}, I p d q h → ∃ zA : Int32 × jH, fA_offence p h = some zA ∧ ∃ zM : Int32 × jH, fM_offence zA.2 = some zM ∧ zA.1 = zM.1 ∧ I p d q zM.2
def jcal_15 (I : Nat → Nat → (Nat → Nat) → jH → Prop) : Prop := ∀ {p d : Nat} {q : Nat → Nat} {h : jH}, I p d q h → ∃ zA : Int32 × jH, fA_best p h = some zA ∧ ∃ zM : Int32 × jH, fM_best zA.2 = some zM ∧ zA.1 = zM.1 ∧ I p d q zM.2
def jcal_16 (I : Nat → Nat → (Nat → Nat) → jH → Prop) : Prop := ∀ {p d : Nat} {q : Nat → Nat} {h : jH} (a0 : Int32), I p d q h → ∃ zA : Int32 × jH, fA_safe p a0 h = some zA ∧ ∃ zM : Int32, fM_safe a0 zA.2 = some zM ∧ zA.1 = zM ∧ I p d q zA.2
def jcal_17 (I : Nat → Nat → (Nat → Nat) → jH → Prop) : Prop := ∀ {p d : Nat} {q : Nat → Nat} {h : jH} (a0 : Int32), I p d q h → ∃ zA : Int32 × jH, fA_leave p a0 h = some zA ∧ ∃ zM : Int32 × jH, fM_leave a0 zA.2 = some zM ∧ zA.1 = zM.1 ∧ I p d q zM.2
def jcal_18 (I : Nat → Nat → (Nat → Nat) → jH → Prop) : Prop := ∀ {p d : Nat} {q : Nat → Nat} {h : jH} (a0 : Int32), I p d q h → ∃ zA : Int32, fA_enough p a0 h = some zA ∧ ∃ zM : Int32 × jH, fM_enough a0 h = some zM ∧ zA = zM.1 ∧ I p d q zM.2
def jcal_19 (I : Nat → Nat → (Nat → Nat) → jH → Prop) : Prop := ∀ {p d : Nat} {q : Nat → Nat} {h : jH} (a0 : Int32), I p d q h → ∃ zA : Int32 × jH, fA_order p a0 h = some zA ∧ ∃ zM : Int32 × jH, fM_order a0 zA.2 = some zM ∧ zA.1 = zM.1 ∧ I p d q zM.2
def jcal_20 (I : Nat → Nat → (Nat → Nat) → jH → Prop) : Prop := ∀ {p d : Nat} {q : Nat → Nat} {h : jH} (a0 : Int32), I p d q h → ∃ zA : Int32 × jH, fA_plates p a0 h = some zA ∧ ∃ zM : Int32 × jH, fM_plates a0 zA.2 = some zM ∧ zA.1 = zM.1 ∧ I p d q zM.2
def jcal_21 (I : Nat → Nat → (Nat → Nat) → jH → Prop) : Prop := ∀ {p d : Nat} {q : Nat → Nat} {h : jH} (a0 : Int32), I p d q h → ∃ zA : Int32 × jH, fA_ring p a0 h = some zA ∧ ∃ zM : Int32 × jH, fM_ring a0 zA.2 = some zM ∧ zA.1 = zM.1 ∧ I p d q zM.2
def jcal_22 (I : Nat → Nat → (Nat → Nat) → jH → Prop) : Prop := ∀ {p d : Nat} {q : Nat → Nat} {h : jH}, I p d q h → ∃ zA : Int32, fA_full p h = some zA ∧ ∃ zM : Int32, fM_full h = some zM ∧ zA = zM ∧ I p d q h
def jcal_23 (I : Nat → Nat → (Nat → Nat) → jH → Prop) : Prop := ∀ {p d : Nat} {q : Nat → Nat} {h : jH} (a0 a1 a2 : Int32), I p d q h → ∃ zA : Int32, fA_seen p a0 a1 a2 h = some zA ∧ ∃ zM : Int32, fM_seen a0 a1 a2 h = some zM ∧ zA = zM ∧ I p d q h
def jcal_24 (I : Nat → Nat → (Nat → Nat) → jH → Prop) : Prop := ∀ {p d : Nat} {q : Nat → Nat} {h : jH} (a0 : Int32), I p d q h → ∃ zA : Int32 × (Nat → Nat) × jH, fA_send p q a0 h = some zA ∧ ∃ zM : Int32 × jH, fM_send a0 zA.2.2 = some zM ∧ zA.1 = zM.1 ∧ I p d zA.2.1 zM.2
def jcal_25 (I : Nat → Nat → (Nat → Nat) → jH → Prop) : Prop := ∀ {p d : Nat} {q : Nat → Nat} {h : jH} (a0 a1 : Int32), I p d q h → ∃ zA : Int32 × (Nat → Nat) × jH, fA_answer p q a0 a1 h = some zA ∧ ∃ zM : Int32 × jH, fM_answer a0 a1 zA.2.2 = some zM ∧ zA.1 = zM.1 ∧ I p d zA.2.1 zM.2
def jcal_26 (I : Nat → Nat → (Nat → Nat) → jH → Prop) : Prop := ∀ {p d : Nat} {q : Nat → Nat} {h : jH} (a0 : Int32), I p d q h → ∃ zA : Int32 × (Nat → Nat) × jH, fA_weeks q a0 h = some zA ∧ ∃ zM : Int32 × jH, fM_weeks a0 zA.2.2 = some zM ∧ zA.1 = zM.1 ∧ I p d zA.2.1 zM.2
def jcal_27 (I : Nat → Nat → (Nat → Nat) → jH → Prop) : Prop := ∀ {p d : Nat} {q : Nat → Nat} {h : jH} (a0 : Int32), I p d q h → ∃ zA : Int32 × (Nat → Nat) × jH, fA_chance p q a0 h = some zA ∧ ∃ zM : Int32 × jH, fM_chance a0 zA.2.2 = some zM ∧ zA.1 = zM.1 ∧ I p d zA.2.1 zM.2
def jcal_28 (I : Nat → Nat → (Nat → Nat) → jH → Prop) : Prop := ∀ {p d : Nat} {q : Nat → Nat} {h : jH}, I p d q h → ∃ zA : Int32 × jH, fA_undo q h = some zA ∧ ∃ zM : Int32 × jH, fM_undo zA.2 = some zM ∧ zA.1 = zM.1 ∧ I p d q zM.2
def jcal_29 (I : Nat → Nat → (Nat → Nat) → jH → Prop) : Prop := ∀ {p d : Nat} {q : Nat → Nat} {h : jH} (a0 : Int32), I p d q h → ∃ zA : Int32 × jH, fA_seed a0 h = some zA ∧ ∃ zM : Int32 × jH, fM_seed a0 zA.2 = some zM ∧ zA.1 = zM.1 ∧ I p d q zM.2
def jcal_30 (I : Nat → Nat → (Nat → Nat) → jH → Prop) : Prop := ∀ {p d : Nat} {q : Nat → Nat} {h : jH}, I p d q h → ∃ zA : Int64 × jH, fA_ask p h = some zA ∧ ∃ zM : Int64 × jH, fM_ask zA.2 = some zM ∧ zA.1 = zM.1 ∧ I p d q zM.2
def jcal_31 (I : Nat → Nat → (Nat → Nat) → jH → Prop) : Prop := ∀ {p d : Nat} {q : Nat → Nat} {h : jH}, I p d q h → ∃ zA : Int32 × jH, fA_image p h = some zA ∧ ∃ zM : Int32 × jH, fM_image zA.2 = some zM ∧ zA.1 = zM.1 ∧ I p d q zM.2
def jcal_32 (I : Nat → Nat → (Nat → Nat) → jH → Prop) : Prop := ∀ {p d : Nat} {q : Nat → Nat} {h : jH} (a0 : Int32), I p d q h → ∃ zA : Int32, fA_octet a0 h = some zA ∧ ∃ zM : Int32, fM_octet a0 h = some zM ∧ zA = zM ∧ I p d q h
def jcal_33 (I : Nat → Nat → (Nat → Nat) → jH → Prop) : Prop := ∀ {p d : Nat} {q : Nat → Nat} {h : jH}, I p d q h → ∃ zA : Int32 × jH, fA_on p h = some zA ∧ ∃ zM : Int32 × jH, fM_on zA.2 = some zM ∧ zA.1 = zM.1 ∧ I p d q zM.2
def jcal_34 (I : Nat → Nat → (Nat → Nat) → jH → Prop) : Prop := ∀ {p d : Nat} {q : Nat → Nat} {h : jH} (a0 : Int32), I p d q h → ∃ zA : Int32, fA_status a0 h = some zA ∧ ∃ zM : Int32, fM_status a0 h = some zM ∧ zA = zM ∧ I p d q h
section JLAW
variable {I : Nat → Nat → (Nat → Nat) → jH → Prop} {X : jX}
theorem jxal {pc : Nat} {es : List jE} {d : Nat} {pl : jPL} {st : List Value} {Q : Option Value → jS → Prop} {b w : Nat} {y : Int32 × Int64 × List (Int32 × Nat)} {R : jR} {h : jH} {i : Int32} (hf : jfe es pc = some (pc, .iaload, 1, (0, b, 0, w), y)) (hi : jin i X.1) (kk : jEx X d es (pc + 1) pl (.int (X.2 i.toNatClampNeg) :: st) (176, R, h) Q) : jEx X d es pc pl (.int i :: .ref 1032 :: st) (176, R, h) Q := jx_xald hf (by decide) hi kk
set_option maxRecDepth 20000 in
theorem jcase_0 (hok : ∀ {p d : Nat} {q : Nat → Nat} {h : jH}, I p d q h → jOK p d q) (hc : jcal_0 I) {p d : Nat} {q : Nat → Nat} {h : jH} {i : Int32} (hI : I p d q h) (hb : ∀ j : Int32, (0 < j.toInt ∧ j.toInt < 6) → jin (i + j) X.1) (K : ∀ {p d : Nat} {q : Nat → Nat} {h : jH}, I p d q h → jEx X (599 + 1) jlaw 986 [some (.ref 1032), some (.ref 1), some (.ref 110), some (.int i)] [] (176, jRf p d q, h) (fun r σ => r = some (.int 1) ∧ σ.1 < 1000)) : jEx X (599 + 1) jlaw 188 [some (.ref 1032), some (.ref 1), some (.ref 110), some (.int i)] [] (176, jRf p d q, h) (fun r σ => r = some (.int 1) ∧ σ.1 < 1000) := by
  obtain ⟨zA, hA, zM, hM, hz, hI2⟩ := hc (X.2 (i + 1).toNatClampNeg) (X.2 (i + 2).toNatClampNeg) (X.2 (i + 3).toNatClampNeg) (X.2 (i + 4).toNatClampNeg) (X.2 (i + 5).toNatClampNeg) hI
  refine jx_next (pc := 188) (pc' := 189) rfl rfl ?_
  refine jx_next (pc := 189) (pc' := 190) rfl rfl ?_
  refine jx_next (pc := 190) (pc' := 191) rfl rfl ?_
  refine jx_next (pc := 191) (pc' := 192) rfl rfl ?_
  refine jx_next (pc := 192) (pc' := 193) rfl rfl ?_
  refine jxal (pc := 193) rfl (hb 1 (by decide)) ?_
  refine jx_next (pc := 194) (pc' := 195) rfl rfl ?_
  refine jx_next (pc := 195) (pc' := 196) rfl rfl ?_
  refine jx_next (pc := 196) (pc' := 197) rfl rfl ?_
  refine jx_next (pc := 197) (pc' := 198) rfl rfl ?_
  refine jxal (pc := 198) rfl (hb 2 (by decide)) ?_
  refine jx_next (pc := 199) (pc' := 200) rfl rfl ?_
  refine jx_next (pc := 200) (pc' := 201) rfl rfl ?_
  refine jx_next (pc := 201) (pc' := 202) rfl rfl ?_
  refine jx_next (pc := 202) (pc' := 203) rfl rfl ?_
  refine jxal (pc := 203) rfl (hb 3 (by decide)) ?_
  refine jx_next (pc := 204) (pc' := 205) rfl rfl ?_
  refine jx_next (pc := 205) (pc' := 206) rfl rfl ?_
  refine jx_next (pc := 206) (pc' := 207) rfl rfl ?_
  refine jx_next (pc := 207) (pc' := 208) rfl rfl ?_
  refine jxal (pc := 208) rfl (hb 4 (by decide)) ?_
  refine jx_next (pc := 209) (pc' := 210) rfl rfl ?_
  refine jx_next (pc := 210) (pc' := 211) rfl rfl ?_
  refine jx_next (pc := 211) (pc' := 212) rfl rfl ?_
  refine jx_next (pc := 212) (pc' := 213) rfl rfl ?_
  refine jxal (pc := 213) rfl (hb 5 (by decide)) ?_
  refine jx_callv (pc := 214) (o := 1) (rest := []) rfl ⟨by decide, by decide⟩ rfl jko_1 (Nat.le_of_ble_eq_true rfl) ?_
  refine kA_feed (hok hI) (by omega) hA ?_
  refine jx_next (pc := 217) (pc' := 218) rfl rfl ?_
  refine jx_next (pc := 218) (pc' := 219) rfl rfl ?_
  refine jx_next (pc := 219) (pc' := 220) rfl rfl ?_
  refine jx_next (pc := 220) (pc' := 221) rfl rfl ?_
  refine jx_next (pc := 221) (pc' := 222) rfl rfl ?_
  refine jxal (pc := 222) rfl (hb 1 (by decide)) ?_
  refine jx_next (pc := 223) (pc' := 224) rfl rfl ?_
  refine jx_next (pc := 224) (pc' := 225) rfl rfl ?_
  refine jx_next (pc := 225) (pc' := 226) rfl rfl ?_
  refine jx_next (pc := 226) (pc' := 227) rfl rfl ?_
  refine jxal (pc := 227) rfl (hb 2 (by decide)) ?_
  refine jx_next (pc := 228) (pc' := 229) rfl rfl ?_
  refine jx_next (pc := 229) (pc' := 230) rfl rfl ?_
  refine jx_next (pc := 230) (pc' := 231) rfl rfl ?_
  refine jx_next (pc := 231) (pc' := 232) rfl rfl ?_
  refine jxal (pc := 232) rfl (hb 3 (by decide)) ?_
  refine jx_next (pc := 233) (pc' := 234) rfl rfl ?_
  refine jx_next (pc := 234) (pc' := 235) rfl rfl ?_
  refine jx_next (pc := 235) (pc' := 236) rfl rfl ?_
  refine jx_next (pc := 236) (pc' := 237) rfl rfl ?_
  refine jxal (pc := 237) rfl (hb 4 (by decide)) ?_
  refine jx_next (pc := 238) (pc' := 239) rfl rfl ?_
  refine jx_next (pc := 239) (pc' := 240) rfl rfl ?_
  refine jx_next (pc := 240) (pc' := 241) rfl rfl ?_
  refine jx_next (pc := 241) (pc' := 242) rfl rfl ?_
  refine jxal (pc := 242) rfl (hb 5 (by decide)) ?_
  refine jx_callv (pc := 243) (o := 110) (rest := [.int zA.1]) rfl ⟨by decide, by decide⟩ rfl jko_110 (Nat.le_of_ble_eq_true rfl) ?_
  refine kM_feed (by omega) hM ?_
  refine jx_iceq (pc := 246) rfl (fun _ => ?_) (fun hn => absurd hz hn)
  exact K hI2
set_option maxRecDepth 20000 in
theorem jcase_1 (hok : ∀ {p d : Nat} {q : Nat → Nat} {h : jH}, I p d q h → jOK p d q) (hc : jcal_1 I) {p d : Nat} {q : Nat → Nat} {h : jH} {i : Int32} (hI : I p d q h) (hb : ∀ j : Int32, (0 < j.toInt ∧ j.toInt < 6) → jin (i + j) X.1) (K : ∀ {p d : Nat} {q : Nat → Nat} {h : jH}, I p d q h → jEx X (599 + 1) jlaw 986 [some (.ref 1032), some (.ref 1), some (.ref 110), some (.int i)] [] (176, jRf p d q, h) (fun r σ => r = some (.int 1) ∧ σ.1 < 1000)) : jEx X (599 + 1) jlaw 251 [some (.ref 1032), some (.ref 1), some (.ref 110), some (.int i)] [] (176, jRf p d q, h) (fun r σ => r = some (.int 1) ∧ σ.1 < 1000) := by
  obtain ⟨zA, hA, zM, hM, hz, hI2⟩ := hc (X.2 (i + 1).toNatClampNeg) hI
  refine jx_next (pc := 251) (pc' := 252) rfl rfl ?_
  refine jx_next (pc := 252) (pc' := 253) rfl rfl ?_
  refine jx_next (pc := 253) (pc' := 254) rfl rfl ?_
  refine jx_next (pc := 254) (pc' := 255) rfl rfl ?_
  refine jx_next (pc := 255) (pc' := 256) rfl rfl ?_
  refine jxal (pc := 256) rfl (hb 1 (by decide)) ?_
  refine jx_callv (pc := 257) (o := 1) (rest := []) rfl ⟨by decide, by decide⟩ rfl jko_1 (Nat.le_of_ble_eq_true rfl) ?_
  refine kA_end (hok hI) (by omega) hA ?_
  refine jx_next (pc := 260) (pc' := 261) rfl rfl ?_
  refine jx_next (pc := 261) (pc' := 262) rfl rfl ?_
  refine jx_next (pc := 262) (pc' := 263) rfl rfl ?_
  refine jx_next (pc := 263) (pc' := 264) rfl rfl ?_
  refine jx_next (pc := 264) (pc' := 265) rfl rfl ?_
  refine jxal (pc := 265) rfl (hb 1 (by decide)) ?_
  refine jx_callv (pc := 266) (o := 110) (rest := [.int zA.1]) rfl ⟨by decide, by decide⟩ rfl jko_110 (Nat.le_of_ble_eq_true rfl) ?_
  refine kM_end (by omega) hM ?_
  refine jx_iceq (pc := 269) rfl (fun _ => ?_) (fun hn => absurd hz hn)
  exact K hI2
set_option maxRecDepth 20000 in
theorem jcase_2 (hok : ∀ {p d : Nat} {q : Nat → Nat} {h : jH}, I p d q h → jOK p d q) (hc : jcal_2 I) {p d : Nat} {q : Nat → Nat} {h : jH} {i : Int32} (hI : I p d q h) (hb : ∀ j : Int32, (0 < j.toInt ∧ j.toInt < 6) → jin (i + j) X.1) (K : ∀ {p d : Nat} {q : Nat → Nat} {h : jH}, I p d q h → jEx X (599 + 1) jlaw 986 [some (.ref 1032), some (.ref 1), some (.ref 110), some (.int i)] [] (176, jRf p d q, h) (fun r σ => r = some (.int 1) ∧ σ.1 < 1000)) : jEx X (599 + 1) jlaw 274 [some (.ref 1032), some (.ref 1), some (.ref 110), some (.int i)] [] (176, jRf p d q, h) (fun r σ => r = some (.int 1) ∧ σ.1 < 1000) := by
  obtain ⟨zA, hA, zM, hM, hz, hI2⟩ := hc hI
  refine jx_next (pc := 274) (pc' := 275) rfl rfl ?_
  refine jx_callv (pc := 275) (o := 1) (rest := []) rfl ⟨by decide, by decide⟩ rfl jko_1 (Nat.le_of_ble_eq_true rfl) ?_
  refine kA_wedding (hok hI) (by omega) hA (fun _ => ?_)
  refine jx_next (pc := 278) (pc' := 279) rfl rfl ?_
  refine jx_callv (pc := 279) (o := 110) (rest := [.int zA.1]) rfl ⟨by decide, by decide⟩ rfl jko_110 (Nat.le_of_ble_eq_true rfl) ?_
  refine kM_wedding (by omega) hM ?_
  refine jx_iceq (pc := 282) rfl (fun _ => ?_) (fun hn => absurd hz hn)
  exact K hI2
set_option maxRecDepth 20000 in
theorem jcase_3 (hok : ∀ {p d : Nat} {q : Nat → Nat} {h : jH}, I p d q h → jOK p d q) (hc : jcal_3 I) {p d : Nat} {q : Nat → Nat} {h : jH} {i : Int32} (hI : I p d q h) (hb : ∀ j : Int32, (0 < j.toInt ∧ j.toInt < 6) → jin (i + j) X.1) (K : ∀ {p d : Nat} {q : Nat → Nat} {h : jH}, I p d q h → jEx X (599 + 1) jlaw 986 [some (.ref 1032), some (.ref 1), some (.ref 110), some (.int i)] [] (176, jRf p d q, h) (fun r σ => r = some (.int 1) ∧ σ.1 < 1000)) : jEx X (599 + 1) jlaw 287 [some (.ref 1032), some (.ref 1), some (.ref 110), some (.int i)] [] (176, jRf p d q, h) (fun r σ => r = some (.int 1) ∧ σ.1 < 1000) := by
  obtain ⟨zA, hA, zM, hM, hz, hI2⟩ := hc (X.2 (i + 1).toNatClampNeg) hI
  refine jx_next (pc := 287) (pc' := 288) rfl rfl ?_
  refine jx_next (pc := 288) (pc' := 289) rfl rfl ?_
  refine jx_next (pc := 289) (pc' := 290) rfl rfl ?_
  refine jx_next (pc := 290) (pc' := 291) rfl rfl ?_
  refine jx_next (pc := 291) (pc' := 292) rfl rfl ?_
  refine jxal (pc := 292) rfl (hb 1 (by decide)) ?_
  refine jx_callv (pc := 293) (o := 1) (rest := []) rfl ⟨by decide, by decide⟩ rfl jko_1 (Nat.le_of_ble_eq_true rfl) ?_
  refine kA_fault (hok hI) (by omega) hA ?_
  refine jx_next (pc := 296) (pc' := 297) rfl rfl ?_
  refine jx_next (pc := 297) (pc' := 298) rfl rfl ?_
  refine jx_next (pc := 298) (pc' := 299) rfl rfl ?_
  refine jx_next (pc := 299) (pc' := 300) rfl rfl ?_
  refine jx_next (pc := 300) (pc' := 301) rfl rfl ?_
  refine jxal (pc := 301) rfl (hb 1 (by decide)) ?_
  refine jx_callv (pc := 302) (o := 110) (rest := [.int zA]) rfl ⟨by decide, by decide⟩ rfl jko_110 (Nat.le_of_ble_eq_true rfl) ?_
  refine kM_fault (by omega) hM ?_
  refine jx_iceq (pc := 305) rfl (fun _ => ?_) (fun hn => absurd hz hn)
  exact K hI2
set_option maxRecDepth 20000 in
theorem jcase_4 (hok : ∀ {p d : Nat} {q : Nat → Nat} {h : jH}, I p d q h → jOK p d q) (hc : jcal_4 I) {p d : Nat} {q : Nat → Nat} {h : jH} {i : Int32} (hI : I p d q h) (hb : ∀ j : Int32, (0 < j.toInt ∧ j.toInt < 6) → jin (i + j) X.1) (K : ∀ {p d : Nat} {q : Nat → Nat} {h : jH}, I p d q h → jEx X (599 + 1) jlaw 986 [some (.ref 1032), some (.ref 1), some (.ref 110), some (.int i)] [] (176, jRf p d q, h) (fun r σ => r = some (.int 1) ∧ σ.1 < 1000)) : jEx X (599 + 1) jlaw 310 [some (.ref 1032), some (.ref 1), some (.ref 110), some (.int i)] [] (176, jRf p d q, h) (fun r σ => r = some (.int 1) ∧ σ.1 < 1000) := by
  obtain ⟨zA, hA, zM, hM, hz, hI2⟩ := hc (X.2 (i + 1).toNatClampNeg) hI
  refine jx_next (pc := 310) (pc' := 311) rfl rfl ?_
  refine jx_next (pc := 311) (pc' := 312) rfl rfl ?_
  refine jx_next (pc := 312) (pc' := 313) rfl rfl ?_
  refine jx_next (pc := 313) (pc' := 314) rfl rfl ?_
  refine jx_next (pc := 314) (pc' := 315) rfl rfl ?_
  refine jxal (pc := 315) rfl (hb 1 (by decide)) ?_
  refine jx_callv (pc := 316) (o := 1) (rest := []) rfl ⟨by decide, by decide⟩ rfl jko_1 (Nat.le_of_ble_eq_true rfl) ?_
  refine kA_has (hok hI) (by omega) hA ?_
  refine jx_next (pc := 319) (pc' := 320) rfl rfl ?_
  refine jx_next (pc := 320) (pc' := 321) rfl rfl ?_
  refine jx_next (pc := 321) (pc' := 322) rfl rfl ?_
  refine jx_next (pc := 322) (pc' := 323) rfl rfl ?_
  refine jx_next (pc := 323) (pc' := 324) rfl rfl ?_
  refine jxal (pc := 324) rfl (hb 1 (by decide)) ?_
  refine jx_callv (pc := 325) (o := 110) (rest := [.int zA]) rfl ⟨by decide, by decide⟩ rfl jko_110 (Nat.le_of_ble_eq_true rfl) ?_
  refine kM_has (by omega) hM ?_
  refine jx_iceq (pc := 328) rfl (fun _ => ?_) (fun hn => absurd hz hn)
  exact K hI2
set_option maxRecDepth 20000 in
theorem jcase_5 (hok : ∀ {p d : Nat} {q : Nat → Nat} {h : jH}, I p d q h → jOK p d q) (hc : jcal_5 I) {p d : Nat} {q : Nat → Nat} {h : jH} {i : Int32} (hI : I p d q h) (hb : ∀ j : Int32, (0 < j.toInt ∧ j.toInt < 6) → jin (i + j) X.1) (K : ∀ {p d : Nat} {q : Nat → Nat} {h : jH}, I p d q h → jEx X (599 + 1) jlaw 986 [some (.ref 1032), some (.ref 1), some (.ref 110), some (.int i)] [] (176, jRf p d q, h) (fun r σ => r = some (.int 1) ∧ σ.1 < 1000)) : jEx X (599 + 1) jlaw 333 [some (.ref 1032), some (.ref 1), some (.ref 110), some (.int i)] [] (176, jRf p d q, h) (fun r σ => r = some (.int 1) ∧ σ.1 < 1000) := by
  obtain ⟨zA, hA, zM, hM, hz, hI2⟩ := hc (X.2 (i + 1).toNatClampNeg) (X.2 (i + 2).toNatClampNeg) hI
  refine jx_next (pc := 333) (pc' := 334) rfl rfl ?_
  refine jx_next (pc := 334) (pc' := 335) rfl rfl ?_
  refine jx_next (pc := 335) (pc' := 336) rfl rfl ?_
  refine jx_next (pc := 336) (pc' := 337) rfl rfl ?_
  refine jx_next (pc := 337) (pc' := 338) rfl rfl ?_
  refine jxal (pc := 338) rfl (hb 1 (by decide)) ?_
  refine jx_next (pc := 339) (pc' := 340) rfl rfl ?_
  refine jx_next (pc := 340) (pc' := 341) rfl rfl ?_
  refine jx_next (pc := 341) (pc' := 342) rfl rfl ?_
  refine jx_next (pc := 342) (pc' := 343) rfl rfl ?_
  refine jxal (pc := 343) rfl (hb 2 (by decide)) ?_
  refine jx_callv (pc := 344) (o := 1) (rest := []) rfl ⟨by decide, by decide⟩ rfl jko_1 (Nat.le_of_ble_eq_true rfl) ?_
  refine kA_letter (hok hI) (by omega) hA ?_
  refine jx_next (pc := 347) (pc' := 348) rfl rfl ?_
  refine jx_next (pc := 348) (pc' := 349) rfl rfl ?_
  refine jx_next (pc := 349) (pc' := 350) rfl rfl ?_
  refine jx_next (pc := 350) (pc' := 351) rfl rfl ?_
  refine jx_next (pc := 351) (pc' := 352) rfl rfl ?_
  refine jxal (pc := 352) rfl (hb 1 (by decide)) ?_
  refine jx_next (pc := 353) (pc' := 354) rfl rfl ?_
  refine jx_next (pc := 354) (pc' := 355) rfl rfl ?_
  refine jx_next (pc := 355) (pc' := 356) rfl rfl ?_
  refine jx_next (pc := 356) (pc' := 357) rfl rfl ?_
  refine jxal (pc := 357) rfl (hb 2 (by decide)) ?_
  refine jx_callv (pc := 358) (o := 110) (rest := [.int zA]) rfl ⟨by decide, by decide⟩ rfl jko_110 (Nat.le_of_ble_eq_true rfl) ?_
  refine kM_letter (by omega) hM ?_
  refine jx_iceq (pc := 361) rfl (fun _ => ?_) (fun hn => absurd hz hn)
  exact K hI2
set_option maxRecDepth 20000 in
theorem jcase_6 (hok : ∀ {p d : Nat} {q : Nat → Nat} {h : jH}, I p d q h → jOK p d q) (hc : jcal_6 I) {p d : Nat} {q : Nat → Nat} {h : jH} {i : Int32} (hI : I p d q h) (hb : ∀ j : Int32, (0 < j.toInt ∧ j.toInt < 6) → jin (i + j) X.1) (K : ∀ {p d : Nat} {q : Nat → Nat} {h : jH}, I p d q h → jEx X (599 + 1) jlaw 986 [some (.ref 1032), some (.ref 1), some (.ref 110), some (.int i)] [] (176, jRf p d q, h) (fun r σ => r = some (.int 1) ∧ σ.1 < 1000)) : jEx X (599 + 1) jlaw 366 [some (.ref 1032), some (.ref 1), some (.ref 110), some (.int i)] [] (176, jRf p d q, h) (fun r σ => r = some (.int 1) ∧ σ.1 < 1000) := by
  obtain ⟨zA, hA, zM, hM, hz, hI2⟩ := hc (X.2 (i + 1).toNatClampNeg) (X.2 (i + 2).toNatClampNeg) hI
  refine jx_next (pc := 366) (pc' := 367) rfl rfl ?_
  refine jx_next (pc := 367) (pc' := 368) rfl rfl ?_
  refine jx_next (pc := 368) (pc' := 369) rfl rfl ?_
  refine jx_next (pc := 369) (pc' := 370) rfl rfl ?_
  refine jx_next (pc := 370) (pc' := 371) rfl rfl ?_
  refine jxal (pc := 371) rfl (hb 1 (by decide)) ?_
  refine jx_next (pc := 372) (pc' := 373) rfl rfl ?_
  refine jx_next (pc := 373) (pc' := 374) rfl rfl ?_
  refine jx_next (pc := 374) (pc' := 375) rfl rfl ?_
  refine jx_next (pc := 375) (pc' := 376) rfl rfl ?_
  refine jxal (pc := 376) rfl (hb 2 (by decide)) ?_
  refine jx_callv (pc := 377) (o := 1) (rest := []) rfl ⟨by decide, by decide⟩ rfl jko_1 (Nat.le_of_ble_eq_true rfl) ?_
  refine kA_guest (hok hI) (by omega) hA ?_
  refine jx_next (pc := 380) (pc' := 381) rfl rfl ?_
  refine jx_next (pc := 381) (pc' := 382) rfl rfl ?_
  refine jx_next (pc := 382) (pc' := 383) rfl rfl ?_
  refine jx_next (pc := 383) (pc' := 384) rfl rfl ?_
  refine jx_next (pc := 384) (pc' := 385) rfl rfl ?_
  refine jxal (pc := 385) rfl (hb 1 (by decide)) ?_
  refine jx_next (pc := 386) (pc' := 387) rfl rfl ?_
  refine jx_next (pc := 387) (pc' := 388) rfl rfl ?_
  refine jx_next (pc := 388) (pc' := 389) rfl rfl ?_
  refine jx_next (pc := 389) (pc' := 390) rfl rfl ?_
  refine jxal (pc := 390) rfl (hb 2 (by decide)) ?_
  refine jx_callv (pc := 391) (o := 110) (rest := [.int zA.1]) rfl ⟨by decide, by decide⟩ rfl jko_110 (Nat.le_of_ble_eq_true rfl) ?_
  refine kM_guest (by omega) hM ?_
  refine jx_iceq (pc := 394) rfl (fun _ => ?_) (fun hn => absurd hz hn)
  exact K hI2
set_option maxRecDepth 20000 in
theorem jcase_7 (hok : ∀ {p d : Nat} {q : Nat → Nat} {h : jH}, I p d q h → jOK p d q) (hc : jcal_7 I) {p d : Nat} {q : Nat → Nat} {h : jH} {i : Int32} (hI : I p d q h) (hb : ∀ j : Int32, (0 < j.toInt ∧ j.toInt < 6) → jin (i + j) X.1) (K : ∀ {p d : Nat} {q : Nat → Nat} {h : jH}, I p d q h → jEx X (599 + 1) jlaw 986 [some (.ref 1032), some (.ref 1), some (.ref 110), some (.int i)] [] (176, jRf p d q, h) (fun r σ => r = some (.int 1) ∧ σ.1 < 1000)) : jEx X (599 + 1) jlaw 399 [some (.ref 1032), some (.ref 1), some (.ref 110), some (.int i)] [] (176, jRf p d q, h) (fun r σ => r = some (.int 1) ∧ σ.1 < 1000) := by
  obtain ⟨zA, hA, zM, hM, hz, hI2⟩ := hc (X.2 (i + 1).toNatClampNeg) hI
  refine jx_next (pc := 399) (pc' := 400) rfl rfl ?_
  refine jx_next (pc := 400) (pc' := 401) rfl rfl ?_
  refine jx_next (pc := 401) (pc' := 402) rfl rfl ?_
  refine jx_next (pc := 402) (pc' := 403) rfl rfl ?_
  refine jx_next (pc := 403) (pc' := 404) rfl rfl ?_
  refine jxal (pc := 404) rfl (hb 1 (by decide)) ?_
  refine jx_callv (pc := 405) (o := 1) (rest := []) rfl ⟨by decide, by decide⟩ rfl jko_1 (Nat.le_of_ble_eq_true rfl) ?_
  refine kA_far (hok hI) (by omega) hA ?_
  refine jx_next (pc := 408) (pc' := 409) rfl rfl ?_
  refine jx_next (pc := 409) (pc' := 410) rfl rfl ?_
  refine jx_next (pc := 410) (pc' := 411) rfl rfl ?_
  refine jx_next (pc := 411) (pc' := 412) rfl rfl ?_
  refine jx_next (pc := 412) (pc' := 413) rfl rfl ?_
  refine jxal (pc := 413) rfl (hb 1 (by decide)) ?_
  refine jx_callv (pc := 414) (o := 110) (rest := [.int zA]) rfl ⟨by decide, by decide⟩ rfl jko_110 (Nat.le_of_ble_eq_true rfl) ?_
  refine kM_far (by omega) hM ?_
  refine jx_iceq (pc := 417) rfl (fun _ => ?_) (fun hn => absurd hz hn)
  exact K hI2
set_option maxRecDepth 20000 in
theorem jcase_8 (hok : ∀ {p d : Nat} {q : Nat → Nat} {h : jH}, I p d q h → jOK p d q) (hc : jcal_8 I) {p d : Nat} {q : Nat → Nat} {h : jH} {i : Int32} (hI : I p d q h) (hb : ∀ j : Int32, (0 < j.toInt ∧ j.toInt < 6) → jin (i + j) X.1) (K : ∀ {p d : Nat} {q : Nat → Nat} {h : jH}, I p d q h → jEx X (599 + 1) jlaw 986 [some (.ref 1032), some (.ref 1), some (.ref 110), some (.int i)] [] (176, jRf p d q, h) (fun r σ => r = some (.int 1) ∧ σ.1 < 1000)) : jEx X (599 + 1) jlaw 422 [some (.ref 1032), some (.ref 1), some (.ref 110), some (.int i)] [] (176, jRf p d q, h) (fun r σ => r = some (.int 1) ∧ σ.1 < 1000) := by
  obtain ⟨zA, hA, zM, hM, hz, hI2⟩ := hc (X.2 (i + 1).toNatClampNeg) hI
  refine jx_next (pc := 422) (pc' := 423) rfl rfl ?_
  refine jx_next (pc := 423) (pc' := 424) rfl rfl ?_
  refine jx_next (pc := 424) (pc' := 425) rfl rfl ?_
  refine jx_next (pc := 425) (pc' := 426) rfl rfl ?_
  refine jx_next (pc := 426) (pc' := 427) rfl rfl ?_
  refine jxal (pc := 427) rfl (hb 1 (by decide)) ?_
  refine jx_callv (pc := 428) (o := 1) (rest := []) rfl ⟨by decide, by decide⟩ rfl jko_1 (Nat.le_of_ble_eq_true rfl) ?_
  refine kA_odds (hok hI) (by omega) hA ?_
  refine jx_next (pc := 431) (pc' := 432) rfl rfl ?_
  refine jx_next (pc := 432) (pc' := 433) rfl rfl ?_
  refine jx_next (pc := 433) (pc' := 434) rfl rfl ?_
  refine jx_next (pc := 434) (pc' := 435) rfl rfl ?_
  refine jx_next (pc := 435) (pc' := 436) rfl rfl ?_
  refine jxal (pc := 436) rfl (hb 1 (by decide)) ?_
  refine jx_callv (pc := 437) (o := 110) (rest := [.int zA.1]) rfl ⟨by decide, by decide⟩ rfl jko_110 (Nat.le_of_ble_eq_true rfl) ?_
  refine kM_odds (by omega) hM ?_
  refine jx_iceq (pc := 440) rfl (fun _ => ?_) (fun hn => absurd hz hn)
  exact K hI2
set_option maxRecDepth 20000 in
theorem jcase_9 (hok : ∀ {p d : Nat} {q : Nat → Nat} {h : jH}, I p d q h → jOK p d q) (hc : jcal_9 I) {p d : Nat} {q : Nat → Nat} {h : jH} {i : Int32} (hI : I p d q h) (hb : ∀ j : Int32, (0 < j.toInt ∧ j.toInt < 6) → jin (i + j) X.1) (K : ∀ {p d : Nat} {q : Nat → Nat} {h : jH}, I p d q h → jEx X (599 + 1) jlaw 986 [some (.ref 1032), some (.ref 1), some (.ref 110), some (.int i)] [] (176, jRf p d q, h) (fun r σ => r = some (.int 1) ∧ σ.1 < 1000)) : jEx X (599 + 1) jlaw 445 [some (.ref 1032), some (.ref 1), some (.ref 110), some (.int i)] [] (176, jRf p d q, h) (fun r σ => r = some (.int 1) ∧ σ.1 < 1000) := by
  obtain ⟨zA, hA, zM, hM, hz, hI2⟩ := hc (X.2 (i + 1).toNatClampNeg) hI
  refine jx_next (pc := 445) (pc' := 446) rfl rfl ?_
  refine jx_next (pc := 446) (pc' := 447) rfl rfl ?_
  refine jx_next (pc := 447) (pc' := 448) rfl rfl ?_
  refine jx_next (pc := 448) (pc' := 449) rfl rfl ?_
  refine jx_next (pc := 449) (pc' := 450) rfl rfl ?_
  refine jxal (pc := 450) rfl (hb 1 (by decide)) ?_
  refine jx_callv (pc := 451) (o := 1) (rest := []) rfl ⟨by decide, by decide⟩ rfl jko_1 (Nat.le_of_ble_eq_true rfl) ?_
  refine kA_above (hok hI) (by omega) hA ?_
  refine jx_next (pc := 454) (pc' := 455) rfl rfl ?_
  refine jx_next (pc := 455) (pc' := 456) rfl rfl ?_
  refine jx_next (pc := 456) (pc' := 457) rfl rfl ?_
  refine jx_next (pc := 457) (pc' := 458) rfl rfl ?_
  refine jx_next (pc := 458) (pc' := 459) rfl rfl ?_
  refine jxal (pc := 459) rfl (hb 1 (by decide)) ?_
  refine jx_callv (pc := 460) (o := 110) (rest := [.int zA.1]) rfl ⟨by decide, by decide⟩ rfl jko_110 (Nat.le_of_ble_eq_true rfl) ?_
  refine kM_above (by omega) hM ?_
  refine jx_iceq (pc := 463) rfl (fun _ => ?_) (fun hn => absurd hz hn)
  exact K hI2
set_option maxRecDepth 20000 in
theorem jcase_10 (hok : ∀ {p d : Nat} {q : Nat → Nat} {h : jH}, I p d q h → jOK p d q) (hc : jcal_10 I) {p d : Nat} {q : Nat → Nat} {h : jH} {i : Int32} (hI : I p d q h) (hb : ∀ j : Int32, (0 < j.toInt ∧ j.toInt < 6) → jin (i + j) X.1) (K : ∀ {p d : Nat} {q : Nat → Nat} {h : jH}, I p d q h → jEx X (599 + 1) jlaw 986 [some (.ref 1032), some (.ref 1), some (.ref 110), some (.int i)] [] (176, jRf p d q, h) (fun r σ => r = some (.int 1) ∧ σ.1 < 1000)) : jEx X (599 + 1) jlaw 468 [some (.ref 1032), some (.ref 1), some (.ref 110), some (.int i)] [] (176, jRf p d q, h) (fun r σ => r = some (.int 1) ∧ σ.1 < 1000) := by
  obtain ⟨zA, hA, zM, hM, hz, hI2⟩ := hc (X.2 (i + 1).toNatClampNeg) hI
  refine jx_next (pc := 468) (pc' := 469) rfl rfl ?_
  refine jx_next (pc := 469) (pc' := 470) rfl rfl ?_
  refine jx_next (pc := 470) (pc' := 471) rfl rfl ?_
  refine jx_next (pc := 471) (pc' := 472) rfl rfl ?_
  refine jx_next (pc := 472) (pc' := 473) rfl rfl ?_
  refine jxal (pc := 473) rfl (hb 1 (by decide)) ?_
  refine jx_callv (pc := 474) (o := 1) (rest := []) rfl ⟨by decide, by decide⟩ rfl jko_1 (Nat.le_of_ble_eq_true rfl) ?_
  refine kA_answers (hok hI) (by omega) hA ?_
  refine jx_next (pc := 477) (pc' := 478) rfl rfl ?_
  refine jx_next (pc := 478) (pc' := 479) rfl rfl ?_
  refine jx_next (pc := 479) (pc' := 480) rfl rfl ?_
  refine jx_next (pc := 480) (pc' := 481) rfl rfl ?_
  refine jx_next (pc := 481) (pc' := 482) rfl rfl ?_
  refine jxal (pc := 482) rfl (hb 1 (by decide)) ?_
  refine jx_callv (pc := 483) (o := 110) (rest := [.int zA]) rfl ⟨by decide, by decide⟩ rfl jko_110 (Nat.le_of_ble_eq_true rfl) ?_
  refine kM_answers (by omega) hM ?_
  refine jx_iceq (pc := 486) rfl (fun _ => ?_) (fun hn => absurd hz hn)
  exact K hI2
set_option maxRecDepth 20000 in
theorem jcase_11 (hok : ∀ {p d : Nat} {q : Nat → Nat} {h : jH}, I p d q h → jOK p d q) (hc : jcal_11 I) {p d : Nat} {q : Nat → Nat} {h : jH} {i : Int32} (hI : I p d q h) (hb : ∀ j : Int32, (0 < j.toInt ∧ j.toInt < 6) → jin (i + j) X.1) (K : ∀ {p d : Nat} {q : Nat → Nat} {h : jH}, I p d q h → jEx X (599 + 1) jlaw 986 [some (.ref 1032), some (.ref 1), some (.ref 110), some (.int i)] [] (176, jRf p d q, h) (fun r σ => r = some (.int 1) ∧ σ.1 < 1000)) : jEx X (599 + 1) jlaw 491 [some (.ref 1032), some (.ref 1), some (.ref 110), some (.int i)] [] (176, jRf p d q, h) (fun r σ => r = some (.int 1) ∧ σ.1 < 1000) := by
  obtain ⟨zA, hA, zM, hM, hz, hI2⟩ := hc hI
  refine jx_next (pc := 491) (pc' := 492) rfl rfl ?_
  refine jx_callv (pc := 492) (o := 1) (rest := []) rfl ⟨by decide, by decide⟩ rfl jko_1 (Nat.le_of_ble_eq_true rfl) ?_
  refine kA_mean (hok hI) (by omega) hA ?_
  refine jx_next (pc := 495) (pc' := 496) rfl rfl ?_
  refine jx_callv (pc := 496) (o := 110) (rest := [.int zA]) rfl ⟨by decide, by decide⟩ rfl jko_110 (Nat.le_of_ble_eq_true rfl) ?_
  refine kM_mean (by omega) hM ?_
  refine jx_iceq (pc := 499) rfl (fun _ => ?_) (fun hn => absurd hz hn)
  exact K hI2
set_option maxRecDepth 20000 in
theorem jcase_12 (hok : ∀ {p d : Nat} {q : Nat → Nat} {h : jH}, I p d q h → jOK p d q) (hc : jcal_12 I) {p d : Nat} {q : Nat → Nat} {h : jH} {i : Int32} (hI : I p d q h) (hb : ∀ j : Int32, (0 < j.toInt ∧ j.toInt < 6) → jin (i + j) X.1) (K : ∀ {p d : Nat} {q : Nat → Nat} {h : jH}, I p d q h → jEx X (599 + 1) jlaw 986 [some (.ref 1032), some (.ref 1), some (.ref 110), some (.int i)] [] (176, jRf p d q, h) (fun r σ => r = some (.int 1) ∧ σ.1 < 1000)) : jEx X (599 + 1) jlaw 504 [some (.ref 1032), some (.ref 1), some (.ref 110), some (.int i)] [] (176, jRf p d q, h) (fun r σ => r = some (.int 1) ∧ σ.1 < 1000) := by
  obtain ⟨zA, hA, zM, hM, hz, hI2⟩ := hc hI
  refine jx_next (pc := 504) (pc' := 505) rfl rfl ?_
  refine jx_callv (pc := 505) (o := 1) (rest := []) rfl ⟨by decide, by decide⟩ rfl jko_1 (Nat.le_of_ble_eq_true rfl) ?_
  refine kA_worth (hok hI) (by omega) hA ?_
  refine jx_next (pc := 508) (pc' := 509) rfl rfl ?_
  refine jx_callv (pc := 509) (o := 110) (rest := [.long zA.1]) rfl ⟨by decide, by decide⟩ rfl jko_110 (Nat.le_of_ble_eq_true rfl) ?_
  refine kM_worth (by omega) hM ?_
  refine jx_lceq (pc := 512) rfl rfl (fun _ => ?_) (fun hn => absurd hz hn)
  exact K hI2
set_option maxRecDepth 20000 in
theorem jcase_13 (hok : ∀ {p d : Nat} {q : Nat → Nat} {h : jH}, I p d q h → jOK p d q) (hc : jcal_13 I) {p d : Nat} {q : Nat → Nat} {h : jH} {i : Int32} (hI : I p d q h) (hb : ∀ j : Int32, (0 < j.toInt ∧ j.toInt < 6) → jin (i + j) X.1) (K : ∀ {p d : Nat} {q : Nat → Nat} {h : jH}, I p d q h → jEx X (599 + 1) jlaw 986 [some (.ref 1032), some (.ref 1), some (.ref 110), some (.int i)] [] (176, jRf p d q, h) (fun r σ => r = some (.int 1) ∧ σ.1 < 1000)) : jEx X (599 + 1) jlaw 518 [some (.ref 1032), some (.ref 1), some (.ref 110), some (.int i)] [] (176, jRf p d q, h) (fun r σ => r = some (.int 1) ∧ σ.1 < 1000) := by
  obtain ⟨zA, hA, zM, hM, hz, hI2⟩ := hc (X.2 (i + 1).toNatClampNeg) hI
  refine jx_next (pc := 518) (pc' := 519) rfl rfl ?_
  refine jx_next (pc := 519) (pc' := 520) rfl rfl ?_
  refine jx_next (pc := 520) (pc' := 521) rfl rfl ?_
  refine jx_next (pc := 521) (pc' := 522) rfl rfl ?_
  refine jx_next (pc := 522) (pc' := 523) rfl rfl ?_
  refine jxal (pc := 523) rfl (hb 1 (by decide)) ?_
  refine jx_callv (pc := 524) (o := 1) (rest := []) rfl ⟨by decide, by decide⟩ rfl jko_1 (Nat.le_of_ble_eq_true rfl) ?_
  refine kA_would (hok hI) (by omega) hA ?_
  refine jx_next (pc := 527) (pc' := 528) rfl rfl ?_
  refine jx_next (pc := 528) (pc' := 529) rfl rfl ?_
  refine jx_next (pc := 529) (pc' := 530) rfl rfl ?_
  refine jx_next (pc := 530) (pc' := 531) rfl rfl ?_
  refine jx_next (pc := 531) (pc' := 532) rfl rfl ?_
  refine jxal (pc := 532) rfl (hb 1 (by decide)) ?_
  refine jx_callv (pc := 533) (o := 110) (rest := [.long zA.1]) rfl ⟨by decide, by decide⟩ rfl jko_110 (Nat.le_of_ble_eq_true rfl) ?_
  refine kM_would (by omega) hM ?_
  refine jx_lceq (pc := 536) rfl rfl (fun _ => ?_) (fun hn => absurd hz hn)
  exact K hI2
set_option maxRecDepth 20000 in
theorem jcase_14 (hok : ∀ {p d : Nat} {q : Nat → Nat} {h : jH}, I p d q h → jOK p d q) (hc : jcal_14 I) {p d : Nat} {q : Nat → Nat} {h : jH} {i : Int32} (hI : I p d q h) (hb : ∀ j : Int32, (0 < j.toInt ∧ j.toInt < 6) → jin (i + j) X.1) (K : ∀ {p d : Nat} {q : Nat → Nat} {h : jH}, I p d q h → jEx X (599 + 1) jlaw 986 [some (.ref 1032), some (.ref 1), some (.ref 110), some (.int i)] [] (176, jRf p d q, h) (fun r σ => r = some (.int 1) ∧ σ.1 < 1000)) : jEx X (599 + 1) jlaw 542 [some (.ref 1032), some (.ref 1), some (.ref 110), some (.int i)] [] (176, jRf p d q, h) (fun r σ => r = some (.int 1) ∧ σ.1 < 1000) := by
  obtain ⟨zA, hA, zM, hM, hz, hI2⟩ := hc hI
  refine jx_next (pc := 542) (pc' := 543) rfl rfl ?_
  refine jx_callv (pc := 543) (o := 1) (rest := []) rfl ⟨by decide, by decide⟩ rfl jko_1 (Nat.le_of_ble_eq_true rfl) ?_
  refine kA_offence (hok hI) (by omega) hA ?_
  refine jx_next (pc := 546) (pc' := 547) rfl rfl ?_
  refine jx_callv (pc := 547) (o := 110) (rest := [.int zA.1]) rfl ⟨by decide, by decide⟩ rfl jko_110 (Nat.le_of_ble_eq_true rfl) ?_
  refine kM_offence (by omega) hM ?_
  refine jx_iceq (pc := 550) rfl (fun _ => ?_) (fun hn => absurd hz hn)
  exact K hI2
set_option maxRecDepth 20000 in
theorem jcase_15 (hok : ∀ {p d : Nat} {q : Nat → Nat} {h : jH}, I p d q h → jOK p d q) (hc : jcal_15 I) {p d : Nat} {q : Nat → Nat} {h : jH} {i : Int32} (hI : I p d q h) (hb : ∀ j : Int32, (0 < j.toInt ∧ j.toInt < 6) → jin (i + j) X.1) (K : ∀ {p d : Nat} {q : Nat → Nat} {h : jH}, I p d q h → jEx X (599 + 1) jlaw 986 [some (.ref 1032), some (.ref 1), some (.ref 110), some (.int i)] [] (176, jRf p d q, h) (fun r σ => r = some (.int 1) ∧ σ.1 < 1000)) : jEx X (599 + 1) jlaw 555 [some (.ref 1032), some (.ref 1), some (.ref 110), some (.int i)] [] (176, jRf p d q, h) (fun r σ => r = some (.int 1) ∧ σ.1 < 1000) := by
  obtain ⟨zA, hA, zM, hM, hz, hI2⟩ := hc hI
  refine jx_next (pc := 555) (pc' := 556) rfl rfl ?_
  refine jx_callv (pc := 556) (o := 1) (rest := []) rfl ⟨by decide, by decide⟩ rfl jko_1 (Nat.le_of_ble_eq_true rfl) ?_
  refine kA_best (hok hI) (by omega) hA ?_
  refine jx_next (pc := 559) (pc' := 560) rfl rfl ?_
  refine jx_callv (pc := 560) (o := 110) (rest := [.int zA.1]) rfl ⟨by decide, by decide⟩ rfl jko_110 (Nat.le_of_ble_eq_true rfl) ?_
  refine kM_best (by omega) hM ?_
  refine jx_iceq (pc := 563) rfl (fun _ => ?_) (fun hn => absurd hz hn)
  exact K hI2
set_option maxRecDepth 20000 in
theorem jcase_16 (hok : ∀ {p d : Nat} {q : Nat → Nat} {h : jH}, I p d q h → jOK p d q) (hc : jcal_16 I) {p d : Nat} {q : Nat → Nat} {h : jH} {i : Int32} (hI : I p d q h) (hb : ∀ j : Int32, (0 < j.toInt ∧ j.toInt < 6) → jin (i + j) X.1) (K : ∀ {p d : Nat} {q : Nat → Nat} {h : jH}, I p d q h → jEx X (599 + 1) jlaw 986 [some (.ref 1032), some (.ref 1), some (.ref 110), some (.int i)] [] (176, jRf p d q, h) (fun r σ => r = some (.int 1) ∧ σ.1 < 1000)) : jEx X (599 + 1) jlaw 568 [some (.ref 1032), some (.ref 1), some (.ref 110), some (.int i)] [] (176, jRf p d q, h) (fun r σ => r = some (.int 1) ∧ σ.1 < 1000) := by
  obtain ⟨zA, hA, zM, hM, hz, hI2⟩ := hc (X.2 (i + 1).toNatClampNeg) hI
  refine jx_next (pc := 568) (pc' := 569) rfl rfl ?_
  refine jx_next (pc := 569) (pc' := 570) rfl rfl ?_
  refine jx_next (pc := 570) (pc' := 571) rfl rfl ?_
  refine jx_next (pc := 571) (pc' := 572) rfl rfl ?_
  refine jx_next (pc := 572) (pc' := 573) rfl rfl ?_
  refine jxal (pc := 573) rfl (hb 1 (by decide)) ?_
  refine jx_callv (pc := 574) (o := 1) (rest := []) rfl ⟨by decide, by decide⟩ rfl jko_1 (Nat.le_of_ble_eq_true rfl) ?_
  refine kA_safe (hok hI) (by omega) hA ?_
  refine jx_next (pc := 577) (pc' := 578) rfl rfl ?_
  refine jx_next (pc := 578) (pc' := 579) rfl rfl ?_
  refine jx_next (pc := 579) (pc' := 580) rfl rfl ?_
  refine jx_next (pc := 580) (pc' := 581) rfl rfl ?_
  refine jx_next (pc := 581) (pc' := 582) rfl rfl ?_
  refine jxal (pc := 582) rfl (hb 1 (by decide)) ?_
  refine jx_callv (pc := 583) (o := 110) (rest := [.int zA.1]) rfl ⟨by decide, by decide⟩ rfl jko_110 (Nat.le_of_ble_eq_true rfl) ?_
  refine kM_safe (by omega) hM ?_
  refine jx_iceq (pc := 586) rfl (fun _ => ?_) (fun hn => absurd hz hn)
  exact K hI2
set_option maxRecDepth 20000 in
theorem jcase_17 (hok : ∀ {p d : Nat} {q : Nat → Nat} {h : jH}, I p d q h → jOK p d q) (hc : jcal_17 I) {p d : Nat} {q : Nat → Nat} {h : jH} {i : Int32} (hI : I p d q h) (hb : ∀ j : Int32, (0 < j.toInt ∧ j.toInt < 6) → jin (i + j) X.1) (K : ∀ {p d : Nat} {q : Nat → Nat} {h : jH}, I p d q h → jEx X (599 + 1) jlaw 986 [some (.ref 1032), some (.ref 1), some (.ref 110), some (.int i)] [] (176, jRf p d q, h) (fun r σ => r = some (.int 1) ∧ σ.1 < 1000)) : jEx X (599 + 1) jlaw 591 [some (.ref 1032), some (.ref 1), some (.ref 110), some (.int i)] [] (176, jRf p d q, h) (fun r σ => r = some (.int 1) ∧ σ.1 < 1000) := by
  obtain ⟨zA, hA, zM, hM, hz, hI2⟩ := hc (X.2 (i + 1).toNatClampNeg) hI
  refine jx_next (pc := 591) (pc' := 592) rfl rfl ?_
  refine jx_next (pc := 592) (pc' := 593) rfl rfl ?_
  refine jx_next (pc := 593) (pc' := 594) rfl rfl ?_
  refine jx_next (pc := 594) (pc' := 595) rfl rfl ?_
  refine jx_next (pc := 595) (pc' := 596) rfl rfl ?_
  refine jxal (pc := 596) rfl (hb 1 (by decide)) ?_
  refine jx_callv (pc := 597) (o := 1) (rest := []) rfl ⟨by decide, by decide⟩ rfl jko_1 (Nat.le_of_ble_eq_true rfl) ?_
  refine kA_leave (hok hI) (by omega) hA ?_
  refine jx_next (pc := 600) (pc' := 601) rfl rfl ?_
  refine jx_next (pc := 601) (pc' := 602) rfl rfl ?_
  refine jx_next (pc := 602) (pc' := 603) rfl rfl ?_
  refine jx_next (pc := 603) (pc' := 604) rfl rfl ?_
  refine jx_next (pc := 604) (pc' := 605) rfl rfl ?_
  refine jxal (pc := 605) rfl (hb 1 (by decide)) ?_
  refine jx_callv (pc := 606) (o := 110) (rest := [.int zA.1]) rfl ⟨by decide, by decide⟩ rfl jko_110 (Nat.le_of_ble_eq_true rfl) ?_
  refine kM_leave (by omega) hM ?_
  refine jx_iceq (pc := 609) rfl (fun _ => ?_) (fun hn => absurd hz hn)
  exact K hI2
set_option maxRecDepth 20000 in
theorem jcase_18 (hok : ∀ {p d : Nat} {q : Nat → Nat} {h : jH}, I p d q h → jOK p d q) (hc : jcal_18 I) {p d : Nat} {q : Nat → Nat} {h : jH} {i : Int32} (hI : I p d q h) (hb : ∀ j : Int32, (0 < j.toInt ∧ j.toInt < 6) → jin (i + j) X.1) (K : ∀ {p d : Nat} {q : Nat → Nat} {h : jH}, I p d q h → jEx X (599 + 1) jlaw 986 [some (.ref 1032), some (.ref 1), some (.ref 110), some (.int i)] [] (176, jRf p d q, h) (fun r σ => r = some (.int 1) ∧ σ.1 < 1000)) : jEx X (599 + 1) jlaw 614 [some (.ref 1032), some (.ref 1), some (.ref 110), some (.int i)] [] (176, jRf p d q, h) (fun r σ => r = some (.int 1) ∧ σ.1 < 1000) := by
  obtain ⟨zA, hA, zM, hM, hz, hI2⟩ := hc (X.2 (i + 1).toNatClampNeg) hI
  refine jx_next (pc := 614) (pc' := 615) rfl rfl ?_
  refine jx_next (pc := 615) (pc' := 616) rfl rfl ?_
  refine jx_next (pc := 616) (pc' := 617) rfl rfl ?_
  refine jx_next (pc := 617) (pc' := 618) rfl rfl ?_
  refine jx_next (pc := 618) (pc' := 619) rfl rfl ?_
  refine jxal (pc := 619) rfl (hb 1 (by decide)) ?_
  refine jx_callv (pc := 620) (o := 1) (rest := []) rfl ⟨by decide, by decide⟩ rfl jko_1 (Nat.le_of_ble_eq_true rfl) ?_
  refine kA_enough (hok hI) (by omega) hA ?_
  refine jx_next (pc := 623) (pc' := 624) rfl rfl ?_
  refine jx_next (pc := 624) (pc' := 625) rfl rfl ?_
  refine jx_next (pc := 625) (pc' := 626) rfl rfl ?_
  refine jx_next (pc := 626) (pc' := 627) rfl rfl ?_
  refine jx_next (pc := 627) (pc' := 628) rfl rfl ?_
  refine jxal (pc := 628) rfl (hb 1 (by decide)) ?_
  refine jx_callv (pc := 629) (o := 110) (rest := [.int zA]) rfl ⟨by decide, by decide⟩ rfl jko_110 (Nat.le_of_ble_eq_true rfl) ?_
  refine kM_enough (by omega) hM ?_
  refine jx_iceq (pc := 632) rfl (fun _ => ?_) (fun hn => absurd hz hn)
  exact K hI2
set_option maxRecDepth 20000 in
theorem jcase_19 (hok : ∀ {p d : Nat} {q : Nat → Nat} {h : jH}, I p d q h → jOK p d q) (hc : jcal_19 I) {p d : Nat} {q : Nat → Nat} {h : jH} {i : Int32} (hI : I p d q h) (hb : ∀ j : Int32, (0 < j.toInt ∧ j.toInt < 6) → jin (i + j) X.1) (K : ∀ {p d : Nat} {q : Nat → Nat} {h : jH}, I p d q h → jEx X (599 + 1) jlaw 986 [some (.ref 1032), some (.ref 1), some (.ref 110), some (.int i)] [] (176, jRf p d q, h) (fun r σ => r = some (.int 1) ∧ σ.1 < 1000)) : jEx X (599 + 1) jlaw 637 [some (.ref 1032), some (.ref 1), some (.ref 110), some (.int i)] [] (176, jRf p d q, h) (fun r σ => r = some (.int 1) ∧ σ.1 < 1000) := by
  obtain ⟨zA, hA, zM, hM, hz, hI2⟩ := hc (X.2 (i + 1).toNatClampNeg) hI
  refine jx_next (pc := 637) (pc' := 638) rfl rfl ?_
  refine jx_next (pc := 638) (pc' := 639) rfl rfl ?_
  refine jx_next (pc := 639) (pc' := 640) rfl rfl ?_
  refine jx_next (pc := 640) (pc' := 641) rfl rfl ?_
  refine jx_next (pc := 641) (pc' := 642) rfl rfl ?_
  refine jxal (pc := 642) rfl (hb 1 (by decide)) ?_
  refine jx_callv (pc := 643) (o := 1) (rest := []) rfl ⟨by decide, by decide⟩ rfl jko_1 (Nat.le_of_ble_eq_true rfl) ?_
  refine kA_order (hok hI) (by omega) hA ?_
  refine jx_next (pc := 646) (pc' := 647) rfl rfl ?_
  refine jx_next (pc := 647) (pc' := 648) rfl rfl ?_
  refine jx_next (pc := 648) (pc' := 649) rfl rfl ?_
  refine jx_next (pc := 649) (pc' := 650) rfl rfl ?_
  refine jx_next (pc := 650) (pc' := 651) rfl rfl ?_
  refine jxal (pc := 651) rfl (hb 1 (by decide)) ?_
  refine jx_callv (pc := 652) (o := 110) (rest := [.int zA.1]) rfl ⟨by decide, by decide⟩ rfl jko_110 (Nat.le_of_ble_eq_true rfl) ?_
  refine kM_order (by omega) hM ?_
  refine jx_iceq (pc := 655) rfl (fun _ => ?_) (fun hn => absurd hz hn)
  exact K hI2
set_option maxRecDepth 20000 in
theorem jcase_20 (hok : ∀ {p d : Nat} {q : Nat → Nat} {h : jH}, I p d q h → jOK p d q) (hc : jcal_20 I) {p d : Nat} {q : Nat → Nat} {h : jH} {i : Int32} (hI : I p d q h) (hb : ∀ j : Int32, (0 < j.toInt ∧ j.toInt < 6) → jin (i + j) X.1) (K : ∀ {p d : Nat} {q : Nat → Nat} {h : jH}, I p d q h → jEx X (599 + 1) jlaw 986 [some (.ref 1032), some (.ref 1), some (.ref 110), some (.int i)] [] (176, jRf p d q, h) (fun r σ => r = some (.int 1) ∧ σ.1 < 1000)) : jEx X (599 + 1) jlaw 660 [some (.ref 1032), some (.ref 1), some (.ref 110), some (.int i)] [] (176, jRf p d q, h) (fun r σ => r = some (.int 1) ∧ σ.1 < 1000) := by
  obtain ⟨zA, hA, zM, hM, hz, hI2⟩ := hc (X.2 (i + 1).toNatClampNeg) hI
  refine jx_next (pc := 660) (pc' := 661) rfl rfl ?_
  refine jx_next (pc := 661) (pc' := 662) rfl rfl ?_
  refine jx_next (pc := 662) (pc' := 663) rfl rfl ?_
  refine jx_next (pc := 663) (pc' := 664) rfl rfl ?_
  refine jx_next (pc := 664) (pc' := 665) rfl rfl ?_
  refine jxal (pc := 665) rfl (hb 1 (by decide)) ?_
  refine jx_callv (pc := 666) (o := 1) (rest := []) rfl ⟨by decide, by decide⟩ rfl jko_1 (Nat.le_of_ble_eq_true rfl) ?_
  refine kA_plates (hok hI) (by omega) hA ?_
  refine jx_next (pc := 669) (pc' := 670) rfl rfl ?_
  refine jx_next (pc := 670) (pc' := 671) rfl rfl ?_
  refine jx_next (pc := 671) (pc' := 672) rfl rfl ?_
  refine jx_next (pc := 672) (pc' := 673) rfl rfl ?_
  refine jx_next (pc := 673) (pc' := 674) rfl rfl ?_
  refine jxal (pc := 674) rfl (hb 1 (by decide)) ?_
  refine jx_callv (pc := 675) (o := 110) (rest := [.int zA.1]) rfl ⟨by decide, by decide⟩ rfl jko_110 (Nat.le_of_ble_eq_true rfl) ?_
  refine kM_plates (by omega) hM ?_
  refine jx_iceq (pc := 678) rfl (fun _ => ?_) (fun hn => absurd hz hn)
  exact K hI2
set_option maxRecDepth 20000 in
theorem jcase_21 (hok : ∀ {p d : Nat} {q : Nat → Nat} {h : jH}, I p d q h → jOK p d q) (hc : jcal_21 I) {p d : Nat} {q : Nat → Nat} {h : jH} {i : Int32} (hI : I p d q h) (hb : ∀ j : Int32, (0 < j.toInt ∧ j.toInt < 6) → jin (i + j) X.1) (K : ∀ {p d : Nat} {q : Nat → Nat} {h : jH}, I p d q h → jEx X (599 + 1) jlaw 986 [some (.ref 1032), some (.ref 1), some (.ref 110), some (.int i)] [] (176, jRf p d q, h) (fun r σ => r = some (.int 1) ∧ σ.1 < 1000)) : jEx X (599 + 1) jlaw 683 [some (.ref 1032), some (.ref 1), some (.ref 110), some (.int i)] [] (176, jRf p d q, h) (fun r σ => r = some (.int 1) ∧ σ.1 < 1000) := by
  obtain ⟨zA, hA, zM, hM, hz, hI2⟩ := hc (X.2 (i + 1).toNatClampNeg) hI
  refine jx_next (pc := 683) (pc' := 684) rfl rfl ?_
  refine jx_next (pc := 684) (pc' := 685) rfl rfl ?_
  refine jx_next (pc := 685) (pc' := 686) rfl rfl ?_
  refine jx_next (pc := 686) (pc' := 687) rfl rfl ?_
  refine jx_next (pc := 687) (pc' := 688) rfl rfl ?_
  refine jxal (pc := 688) rfl (hb 1 (by decide)) ?_
  refine jx_callv (pc := 689) (o := 1) (rest := []) rfl ⟨by decide, by decide⟩ rfl jko_1 (Nat.le_of_ble_eq_true rfl) ?_
  refine kA_ring (hok hI) (by omega) hA ?_
  refine jx_next (pc := 692) (pc' := 693) rfl rfl ?_
  refine jx_next (pc := 693) (pc' := 694) rfl rfl ?_
  refine jx_next (pc := 694) (pc' := 695) rfl rfl ?_
  refine jx_next (pc := 695) (pc' := 696) rfl rfl ?_
  refine jx_next (pc := 696) (pc' := 697) rfl rfl ?_
  refine jxal (pc := 697) rfl (hb 1 (by decide)) ?_
  refine jx_callv (pc := 698) (o := 110) (rest := [.int zA.1]) rfl ⟨by decide, by decide⟩ rfl jko_110 (Nat.le_of_ble_eq_true rfl) ?_
  refine kM_ring (by omega) hM ?_
  refine jx_iceq (pc := 701) rfl (fun _ => ?_) (fun hn => absurd hz hn)
  exact K hI2
set_option maxRecDepth 20000 in
theorem jcase_22 (hok : ∀ {p d : Nat} {q : Nat → Nat} {h : jH}, I p d q h → jOK p d q) (hc : jcal_22 I) {p d : Nat} {q : Nat → Nat} {h : jH} {i : Int32} (hI : I p d q h) (hb : ∀ j : Int32, (0 < j.toInt ∧ j.toInt < 6) → jin (i + j) X.1) (K : ∀ {p d : Nat} {q : Nat → Nat} {h : jH}, I p d q h → jEx X (599 + 1) jlaw 986 [some (.ref 1032), some (.ref 1), some (.ref 110), some (.int i)] [] (176, jRf p d q, h) (fun r σ => r = some (.int 1) ∧ σ.1 < 1000)) : jEx X (599 + 1) jlaw 706 [some (.ref 1032), some (.ref 1), some (.ref 110), some (.int i)] [] (176, jRf p d q, h) (fun r σ => r = some (.int 1) ∧ σ.1 < 1000) := by
  obtain ⟨zA, hA, zM, hM, hz, hI2⟩ := hc hI
  refine jx_next (pc := 706) (pc' := 707) rfl rfl ?_
  refine jx_callv (pc := 707) (o := 1) (rest := []) rfl ⟨by decide, by decide⟩ rfl jko_1 (Nat.le_of_ble_eq_true rfl) ?_
  refine kA_full (hok hI) (by omega) hA ?_
  refine jx_next (pc := 710) (pc' := 711) rfl rfl ?_
  refine jx_callv (pc := 711) (o := 110) (rest := [.int zA]) rfl ⟨by decide, by decide⟩ rfl jko_110 (Nat.le_of_ble_eq_true rfl) ?_
  refine kM_full (by omega) hM ?_
  refine jx_iceq (pc := 714) rfl (fun _ => ?_) (fun hn => absurd hz hn)
  exact K hI2
set_option maxRecDepth 20000 in
theorem jcase_23 (hok : ∀ {p d : Nat} {q : Nat → Nat} {h : jH}, I p d q h → jOK p d q) (hc : jcal_23 I) {p d : Nat} {q : Nat → Nat} {h : jH} {i : Int32} (hI : I p d q h) (hb : ∀ j : Int32, (0 < j.toInt ∧ j.toInt < 6) → jin (i + j) X.1) (K : ∀ {p d : Nat} {q : Nat → Nat} {h : jH}, I p d q h → jEx X (599 + 1) jlaw 986 [some (.ref 1032), some (.ref 1), some (.ref 110), some (.int i)] [] (176, jRf p d q, h) (fun r σ => r = some (.int 1) ∧ σ.1 < 1000)) : jEx X (599 + 1) jlaw 719 [some (.ref 1032), some (.ref 1), some (.ref 110), some (.int i)] [] (176, jRf p d q, h) (fun r σ => r = some (.int 1) ∧ σ.1 < 1000) := by
  obtain ⟨zA, hA, zM, hM, hz, hI2⟩ := hc (X.2 (i + 1).toNatClampNeg) (X.2 (i + 2).toNatClampNeg) (X.2 (i + 3).toNatClampNeg) hI
  refine jx_next (pc := 719) (pc' := 720) rfl rfl ?_
  refine jx_next (pc := 720) (pc' := 721) rfl rfl ?_
  refine jx_next (pc := 721) (pc' := 722) rfl rfl ?_
  refine jx_next (pc := 722) (pc' := 723) rfl rfl ?_
  refine jx_next (pc := 723) (pc' := 724) rfl rfl ?_
  refine jxal (pc := 724) rfl (hb 1 (by decide)) ?_
  refine jx_next (pc := 725) (pc' := 726) rfl rfl ?_
  refine jx_next (pc := 726) (pc' := 727) rfl rfl ?_
  refine jx_next (pc := 727) (pc' := 728) rfl rfl ?_
  refine jx_next (pc := 728) (pc' := 729) rfl rfl ?_
  refine jxal (pc := 729) rfl (hb 2 (by decide)) ?_
  refine jx_next (pc := 730) (pc' := 731) rfl rfl ?_
  refine jx_next (pc := 731) (pc' := 732) rfl rfl ?_
  refine jx_next (pc := 732) (pc' := 733) rfl rfl ?_
  refine jx_next (pc := 733) (pc' := 734) rfl rfl ?_
  refine jxal (pc := 734) rfl (hb 3 (by decide)) ?_
  refine jx_callv (pc := 735) (o := 1) (rest := []) rfl ⟨by decide, by decide⟩ rfl jko_1 (Nat.le_of_ble_eq_true rfl) ?_
  refine kA_seen (hok hI) (by omega) hA ?_
  refine jx_next (pc := 738) (pc' := 739) rfl rfl ?_
  refine jx_next (pc := 739) (pc' := 740) rfl rfl ?_
  refine jx_next (pc := 740) (pc' := 741) rfl rfl ?_
  refine jx_next (pc := 741) (pc' := 742) rfl rfl ?_
  refine jx_next (pc := 742) (pc' := 743) rfl rfl ?_
  refine jxal (pc := 743) rfl (hb 1 (by decide)) ?_
  refine jx_next (pc := 744) (pc' := 745) rfl rfl ?_
  refine jx_next (pc := 745) (pc' := 746) rfl rfl ?_
  refine jx_next (pc := 746) (pc' := 747) rfl rfl ?_
  refine jx_next (pc := 747) (pc' := 748) rfl rfl ?_
  refine jxal (pc := 748) rfl (hb 2 (by decide)) ?_
  refine jx_next (pc := 749) (pc' := 750) rfl rfl ?_
  refine jx_next (pc := 750) (pc' := 751) rfl rfl ?_
  refine jx_next (pc := 751) (pc' := 752) rfl rfl ?_
  refine jx_next (pc := 752) (pc' := 753) rfl rfl ?_
  refine jxal (pc := 753) rfl (hb 3 (by decide)) ?_
  refine jx_callv (pc := 754) (o := 110) (rest := [.int zA]) rfl ⟨by decide, by decide⟩ rfl jko_110 (Nat.le_of_ble_eq_true rfl) ?_
  refine kM_seen (by omega) hM ?_
  refine jx_iceq (pc := 757) rfl (fun _ => ?_) (fun hn => absurd hz hn)
  exact K hI2
set_option maxRecDepth 20000 in
theorem jcase_24 (hok : ∀ {p d : Nat} {q : Nat → Nat} {h : jH}, I p d q h → jOK p d q) (hc : jcal_24 I) {p d : Nat} {q : Nat → Nat} {h : jH} {i : Int32} (hI : I p d q h) (hb : ∀ j : Int32, (0 < j.toInt ∧ j.toInt < 6) → jin (i + j) X.1) (K : ∀ {p d : Nat} {q : Nat → Nat} {h : jH}, I p d q h → jEx X (599 + 1) jlaw 986 [some (.ref 1032), some (.ref 1), some (.ref 110), some (.int i)] [] (176, jRf p d q, h) (fun r σ => r = some (.int 1) ∧ σ.1 < 1000)) : jEx X (599 + 1) jlaw 762 [some (.ref 1032), some (.ref 1), some (.ref 110), some (.int i)] [] (176, jRf p d q, h) (fun r σ => r = some (.int 1) ∧ σ.1 < 1000) := by
  obtain ⟨zA, hA, zM, hM, hz, hI2⟩ := hc (X.2 (i + 1).toNatClampNeg) hI
  refine jx_next (pc := 762) (pc' := 763) rfl rfl ?_
  refine jx_next (pc := 763) (pc' := 764) rfl rfl ?_
  refine jx_next (pc := 764) (pc' := 765) rfl rfl ?_
  refine jx_next (pc := 765) (pc' := 766) rfl rfl ?_
  refine jx_next (pc := 766) (pc' := 767) rfl rfl ?_
  refine jxal (pc := 767) rfl (hb 1 (by decide)) ?_
  refine jx_callv (pc := 768) (o := 1) (rest := []) rfl ⟨by decide, by decide⟩ rfl jko_1 (Nat.le_of_ble_eq_true rfl) ?_
  refine kA_send (hok hI) (by omega) hA (fun _ => ?_)
  refine jx_next (pc := 771) (pc' := 772) rfl rfl ?_
  refine jx_next (pc := 772) (pc' := 773) rfl rfl ?_
  refine jx_next (pc := 773) (pc' := 774) rfl rfl ?_
  refine jx_next (pc := 774) (pc' := 775) rfl rfl ?_
  refine jx_next (pc := 775) (pc' := 776) rfl rfl ?_
  refine jxal (pc := 776) rfl (hb 1 (by decide)) ?_
  refine jx_callv (pc := 777) (o := 110) (rest := [.int zA.1]) rfl ⟨by decide, by decide⟩ rfl jko_110 (Nat.le_of_ble_eq_true rfl) ?_
  refine kM_send (by omega) hM ?_
  refine jx_iceq (pc := 780) rfl (fun _ => ?_) (fun hn => absurd hz hn)
  exact K hI2
set_option maxRecDepth 20000 in
theorem jcase_25 (hok : ∀ {p d : Nat} {q : Nat → Nat} {h : jH}, I p d q h → jOK p d q) (hc : jcal_25 I) {p d : Nat} {q : Nat → Nat} {h : jH} {i : Int32} (hI : I p d q h) (hb : ∀ j : Int32, (0 < j.toInt ∧ j.toInt < 6) → jin (i + j) X.1) (K : ∀ {p d : Nat} {q : Nat → Nat} {h : jH}, I p d q h → jEx X (599 + 1) jlaw 986 [some (.ref 1032), some (.ref 1), some (.ref 110), some (.int i)] [] (176, jRf p d q, h) (fun r σ => r = some (.int 1) ∧ σ.1 < 1000)) : jEx X (599 + 1) jlaw 785 [some (.ref 1032), some (.ref 1), some (.ref 110), some (.int i)] [] (176, jRf p d q, h) (fun r σ => r = some (.int 1) ∧ σ.1 < 1000) := by
  obtain ⟨zA, hA, zM, hM, hz, hI2⟩ := hc (X.2 (i + 1).toNatClampNeg) (X.2 (i + 2).toNatClampNeg) hI
  refine jx_next (pc := 785) (pc' := 786) rfl rfl ?_
  refine jx_next (pc := 786) (pc' := 787) rfl rfl ?_
  refine jx_next (pc := 787) (pc' := 788) rfl rfl ?_
  refine jx_next (pc := 788) (pc' := 789) rfl rfl ?_
  refine jx_next (pc := 789) (pc' := 790) rfl rfl ?_
  refine jxal (pc := 790) rfl (hb 1 (by decide)) ?_
  refine jx_next (pc := 791) (pc' := 792) rfl rfl ?_
  refine jx_next (pc := 792) (pc' := 793) rfl rfl ?_
  refine jx_next (pc := 793) (pc' := 794) rfl rfl ?_
  refine jx_next (pc := 794) (pc' := 795) rfl rfl ?_
  refine jxal (pc := 795) rfl (hb 2 (by decide)) ?_
  refine jx_callv (pc := 796) (o := 1) (rest := []) rfl ⟨by decide, by decide⟩ rfl jko_1 (Nat.le_of_ble_eq_true rfl) ?_
  refine kA_answer (hok hI) (by omega) hA (fun _ => ?_)
  refine jx_next (pc := 799) (pc' := 800) rfl rfl ?_
  refine jx_next (pc := 800) (pc' := 801) rfl rfl ?_
  refine jx_next (pc := 801) (pc' := 802) rfl rfl ?_
  refine jx_next (pc := 802) (pc' := 803) rfl rfl ?_
  refine jx_next (pc := 803) (pc' := 804) rfl rfl ?_
  refine jxal (pc := 804) rfl (hb 1 (by decide)) ?_
  refine jx_next (pc := 805) (pc' := 806) rfl rfl ?_
  refine jx_next (pc := 806) (pc' := 807) rfl rfl ?_
  refine jx_next (pc := 807) (pc' := 808) rfl rfl ?_
  refine jx_next (pc := 808) (pc' := 809) rfl rfl ?_
  refine jxal (pc := 809) rfl (hb 2 (by decide)) ?_
  refine jx_callv (pc := 810) (o := 110) (rest := [.int zA.1]) rfl ⟨by decide, by decide⟩ rfl jko_110 (Nat.le_of_ble_eq_true rfl) ?_
  refine kM_answer (by omega) hM ?_
  refine jx_iceq (pc := 813) rfl (fun _ => ?_) (fun hn => absurd hz hn)
  exact K hI2
set_option maxRecDepth 20000 in
theorem jcase_26 (hok : ∀ {p d : Nat} {q : Nat → Nat} {h : jH}, I p d q h → jOK p d q) (hc : jcal_26 I) {p d : Nat} {q : Nat → Nat} {h : jH} {i : Int32} (hI : I p d q h) (hb : ∀ j : Int32, (0 < j.toInt ∧ j.toInt < 6) → jin (i + j) X.1) (K : ∀ {p d : Nat} {q : Nat → Nat} {h : jH}, I p d q h → jEx X (599 + 1) jlaw 986 [some (.ref 1032), some (.ref 1), some (.ref 110), some (.int i)] [] (176, jRf p d q, h) (fun r σ => r = some (.int 1) ∧ σ.1 < 1000)) : jEx X (599 + 1) jlaw 818 [some (.ref 1032), some (.ref 1), some (.ref 110), some (.int i)] [] (176, jRf p d q, h) (fun r σ => r = some (.int 1) ∧ σ.1 < 1000) := by
  obtain ⟨zA, hA, zM, hM, hz, hI2⟩ := hc (X.2 (i + 1).toNatClampNeg) hI
  refine jx_next (pc := 818) (pc' := 819) rfl rfl ?_
  refine jx_next (pc := 819) (pc' := 820) rfl rfl ?_
  refine jx_next (pc := 820) (pc' := 821) rfl rfl ?_
  refine jx_next (pc := 821) (pc' := 822) rfl rfl ?_
  refine jx_next (pc := 822) (pc' := 823) rfl rfl ?_
  refine jxal (pc := 823) rfl (hb 1 (by decide)) ?_
  refine jx_callv (pc := 824) (o := 1) (rest := []) rfl ⟨by decide, by decide⟩ rfl jko_1 (Nat.le_of_ble_eq_true rfl) ?_
  refine kA_weeks (hok hI) (by omega) hA (fun _ => ?_)
  refine jx_next (pc := 827) (pc' := 828) rfl rfl ?_
  refine jx_next (pc := 828) (pc' := 829) rfl rfl ?_
  refine jx_next (pc := 829) (pc' := 830) rfl rfl ?_
  refine jx_next (pc := 830) (pc' := 831) rfl rfl ?_
  refine jx_next (pc := 831) (pc' := 832) rfl rfl ?_
  refine jxal (pc := 832) rfl (hb 1 (by decide)) ?_
  refine jx_callv (pc := 833) (o := 110) (rest := [.int zA.1]) rfl ⟨by decide, by decide⟩ rfl jko_110 (Nat.le_of_ble_eq_true rfl) ?_
  refine kM_weeks (by omega) hM ?_
  refine jx_iceq (pc := 836) rfl (fun _ => ?_) (fun hn => absurd hz hn)
  exact K hI2
set_option maxRecDepth 20000 in
theorem jcase_27 (hok : ∀ {p d : Nat} {q : Nat → Nat} {h : jH}, I p d q h → jOK p d q) (hc : jcal_27 I) {p d : Nat} {q : Nat → Nat} {h : jH} {i : Int32} (hI : I p d q h) (hb : ∀ j : Int32, (0 < j.toInt ∧ j.toInt < 6) → jin (i + j) X.1) (K : ∀ {p d : Nat} {q : Nat → Nat} {h : jH}, I p d q h → jEx X (599 + 1) jlaw 986 [some (.ref 1032), some (.ref 1), some (.ref 110), some (.int i)] [] (176, jRf p d q, h) (fun r σ => r = some (.int 1) ∧ σ.1 < 1000)) : jEx X (599 + 1) jlaw 841 [some (.ref 1032), some (.ref 1), some (.ref 110), some (.int i)] [] (176, jRf p d q, h) (fun r σ => r = some (.int 1) ∧ σ.1 < 1000) := by
  obtain ⟨zA, hA, zM, hM, hz, hI2⟩ := hc (X.2 (i + 1).toNatClampNeg) hI
  refine jx_next (pc := 841) (pc' := 842) rfl rfl ?_
  refine jx_next (pc := 842) (pc' := 843) rfl rfl ?_
  refine jx_next (pc := 843) (pc' := 844) rfl rfl ?_
  refine jx_next (pc := 844) (pc' := 845) rfl rfl ?_
  refine jx_next (pc := 845) (pc' := 846) rfl rfl ?_
  refine jxal (pc := 846) rfl (hb 1 (by decide)) ?_
  refine jx_callv (pc := 847) (o := 1) (rest := []) rfl ⟨by decide, by decide⟩ rfl jko_1 (Nat.le_of_ble_eq_true rfl) ?_
  refine kA_chance (hok hI) (by omega) hA (fun _ => ?_)
  refine jx_next (pc := 850) (pc' := 851) rfl rfl ?_
  refine jx_next (pc := 851) (pc' := 852) rfl rfl ?_
  refine jx_next (pc := 852) (pc' := 853) rfl rfl ?_
  refine jx_next (pc := 853) (pc' := 854) rfl rfl ?_
  refine jx_next (pc := 854) (pc' := 855) rfl rfl ?_
  refine jxal (pc := 855) rfl (hb 1 (by decide)) ?_
  refine jx_callv (pc := 856) (o := 110) (rest := [.int zA.1]) rfl ⟨by decide, by decide⟩ rfl jko_110 (Nat.le_of_ble_eq_true rfl) ?_
  refine kM_chance (by omega) hM ?_
  refine jx_iceq (pc := 859) rfl (fun _ => ?_) (fun hn => absurd hz hn)
  exact K hI2
set_option maxRecDepth 20000 in
theorem jcase_28 (hok : ∀ {p d : Nat} {q : Nat → Nat} {h : jH}, I p d q h → jOK p d q) (hc : jcal_28 I) {p d : Nat} {q : Nat → Nat} {h : jH} {i : Int32} (hI : I p d q h) (hb : ∀ j : Int32, (0 < j.toInt ∧ j.toInt < 6) → jin (i + j) X.1) (K : ∀ {p d : Nat} {q : Nat → Nat} {h : jH}, I p d q h → jEx X (599 + 1) jlaw 986 [some (.ref 1032), some (.ref 1), some (.ref 110), some (.int i)] [] (176, jRf p d q, h) (fun r σ => r = some (.int 1) ∧ σ.1 < 1000)) : jEx X (599 + 1) jlaw 864 [some (.ref 1032), some (.ref 1), some (.ref 110), some (.int i)] [] (176, jRf p d q, h) (fun r σ => r = some (.int 1) ∧ σ.1 < 1000) := by
  obtain ⟨zA, hA, zM, hM, hz, hI2⟩ := hc hI
  refine jx_next (pc := 864) (pc' := 865) rfl rfl ?_
  refine jx_callv (pc := 865) (o := 1) (rest := []) rfl ⟨by decide, by decide⟩ rfl jko_1 (Nat.le_of_ble_eq_true rfl) ?_
  refine kA_undo (hok hI) (by omega) hA ?_
  refine jx_next (pc := 868) (pc' := 869) rfl rfl ?_
  refine jx_callv (pc := 869) (o := 110) (rest := [.int zA.1]) rfl ⟨by decide, by decide⟩ rfl jko_110 (Nat.le_of_ble_eq_true rfl) ?_
  refine kM_undo (by omega) hM ?_
  refine jx_iceq (pc := 872) rfl (fun _ => ?_) (fun hn => absurd hz hn)
  exact K hI2
set_option maxRecDepth 20000 in
theorem jcase_29 (hok : ∀ {p d : Nat} {q : Nat → Nat} {h : jH}, I p d q h → jOK p d q) (hc : jcal_29 I) {p d : Nat} {q : Nat → Nat} {h : jH} {i : Int32} (hI : I p d q h) (hb : ∀ j : Int32, (0 < j.toInt ∧ j.toInt < 6) → jin (i + j) X.1) (K : ∀ {p d : Nat} {q : Nat → Nat} {h : jH}, I p d q h → jEx X (599 + 1) jlaw 986 [some (.ref 1032), some (.ref 1), some (.ref 110), some (.int i)] [] (176, jRf p d q, h) (fun r σ => r = some (.int 1) ∧ σ.1 < 1000)) : jEx X (599 + 1) jlaw 877 [some (.ref 1032), some (.ref 1), some (.ref 110), some (.int i)] [] (176, jRf p d q, h) (fun r σ => r = some (.int 1) ∧ σ.1 < 1000) := by
  obtain ⟨zA, hA, zM, hM, hz, hI2⟩ := hc (X.2 (i + 1).toNatClampNeg) hI
  refine jx_next (pc := 877) (pc' := 878) rfl rfl ?_
  refine jx_next (pc := 878) (pc' := 879) rfl rfl ?_
  refine jx_next (pc := 879) (pc' := 880) rfl rfl ?_
  refine jx_next (pc := 880) (pc' := 881) rfl rfl ?_
  refine jx_next (pc := 881) (pc' := 882) rfl rfl ?_
  refine jxal (pc := 882) rfl (hb 1 (by decide)) ?_
  refine jx_callv (pc := 883) (o := 1) (rest := []) rfl ⟨by decide, by decide⟩ rfl jko_1 (Nat.le_of_ble_eq_true rfl) ?_
  refine kA_seed (hok hI) (by omega) hA ?_
  refine jx_next (pc := 886) (pc' := 887) rfl rfl ?_
  refine jx_next (pc := 887) (pc' := 888) rfl rfl ?_
  refine jx_next (pc := 888) (pc' := 889) rfl rfl ?_
  refine jx_next (pc := 889) (pc' := 890) rfl rfl ?_
  refine jx_next (pc := 890) (pc' := 891) rfl rfl ?_
  refine jxal (pc := 891) rfl (hb 1 (by decide)) ?_
  refine jx_callv (pc := 892) (o := 110) (rest := [.int zA.1]) rfl ⟨by decide, by decide⟩ rfl jko_110 (Nat.le_of_ble_eq_true rfl) ?_
  refine kM_seed (by omega) hM ?_
  refine jx_iceq (pc := 895) rfl (fun _ => ?_) (fun hn => absurd hz hn)
  exact K hI2
set_option maxRecDepth 20000 in
theorem jcase_30 (hok : ∀ {p d : Nat} {q : Nat → Nat} {h : jH}, I p d q h → jOK p d q) (hc : jcal_30 I) {p d : Nat} {q : Nat → Nat} {h : jH} {i : Int32} (hI : I p d q h) (hb : ∀ j : Int32, (0 < j.toInt ∧ j.toInt < 6) → jin (i + j) X.1) (K : ∀ {p d : Nat} {q : Nat → Nat} {h : jH}, I p d q h → jEx X (599 + 1) jlaw 986 [some (.ref 1032), some (.ref 1), some (.ref 110), some (.int i)] [] (176, jRf p d q, h) (fun r σ => r = some (.int 1) ∧ σ.1 < 1000)) : jEx X (599 + 1) jlaw 900 [some (.ref 1032), some (.ref 1), some (.ref 110), some (.int i)] [] (176, jRf p d q, h) (fun r σ => r = some (.int 1) ∧ σ.1 < 1000) := by
  obtain ⟨zA, hA, zM, hM, hz, hI2⟩ := hc hI
  refine jx_next (pc := 900) (pc' := 901) rfl rfl ?_
  refine jx_callv (pc := 901) (o := 1) (rest := []) rfl ⟨by decide, by decide⟩ rfl jko_1 (Nat.le_of_ble_eq_true rfl) ?_
  refine kA_ask (hok hI) (by omega) hA ?_
  refine jx_next (pc := 904) (pc' := 905) rfl rfl ?_
  refine jx_callv (pc := 905) (o := 110) (rest := [.long zA.1]) rfl ⟨by decide, by decide⟩ rfl jko_110 (Nat.le_of_ble_eq_true rfl) ?_
  refine kM_ask (by omega) hM ?_
  refine jx_lceq (pc := 908) rfl rfl (fun _ => ?_) (fun hn => absurd hz hn)
  exact K hI2
set_option maxRecDepth 20000 in
theorem jcase_31 (hok : ∀ {p d : Nat} {q : Nat → Nat} {h : jH}, I p d q h → jOK p d q) (hc : jcal_31 I) {p d : Nat} {q : Nat → Nat} {h : jH} {i : Int32} (hI : I p d q h) (hb : ∀ j : Int32, (0 < j.toInt ∧ j.toInt < 6) → jin (i + j) X.1) (K : ∀ {p d : Nat} {q : Nat → Nat} {h : jH}, I p d q h → jEx X (599 + 1) jlaw 986 [some (.ref 1032), some (.ref 1), some (.ref 110), some (.int i)] [] (176, jRf p d q, h) (fun r σ => r = some (.int 1) ∧ σ.1 < 1000)) : jEx X (599 + 1) jlaw 914 [some (.ref 1032), some (.ref 1), some (.ref 110), some (.int i)] [] (176, jRf p d q, h) (fun r σ => r = some (.int 1) ∧ σ.1 < 1000) := by
  obtain ⟨zA, hA, zM, hM, hz, hI2⟩ := hc hI
  refine jx_next (pc := 914) (pc' := 915) rfl rfl ?_
  refine jx_callv (pc := 915) (o := 1) (rest := []) rfl ⟨by decide, by decide⟩ rfl jko_1 (Nat.le_of_ble_eq_true rfl) ?_
  refine kA_image (hok hI) (by omega) hA ?_
  refine jx_next (pc := 918) (pc' := 919) rfl rfl ?_
  refine jx_callv (pc := 919) (o := 110) (rest := [.int zA.1]) rfl ⟨by decide, by decide⟩ rfl jko_110 (Nat.le_of_ble_eq_true rfl) ?_
  refine kM_image (by omega) hM ?_
  refine jx_iceq (pc := 922) rfl (fun _ => ?_) (fun hn => absurd hz hn)
  exact K hI2
set_option maxRecDepth 20000 in
theorem jcase_32 (hok : ∀ {p d : Nat} {q : Nat → Nat} {h : jH}, I p d q h → jOK p d q) (hc : jcal_32 I) {p d : Nat} {q : Nat → Nat} {h : jH} {i : Int32} (hI : I p d q h) (hb : ∀ j : Int32, (0 < j.toInt ∧ j.toInt < 6) → jin (i + j) X.1) (K : ∀ {p d : Nat} {q : Nat → Nat} {h : jH}, I p d q h → jEx X (599 + 1) jlaw 986 [some (.ref 1032), some (.ref 1), some (.ref 110), some (.int i)] [] (176, jRf p d q, h) (fun r σ => r = some (.int 1) ∧ σ.1 < 1000)) : jEx X (599 + 1) jlaw 927 [some (.ref 1032), some (.ref 1), some (.ref 110), some (.int i)] [] (176, jRf p d q, h) (fun r σ => r = some (.int 1) ∧ σ.1 < 1000) := by
  obtain ⟨zA, hA, zM, hM, hz, hI2⟩ := hc (X.2 (i + 1).toNatClampNeg) hI
  refine jx_next (pc := 927) (pc' := 928) rfl rfl ?_
  refine jx_next (pc := 928) (pc' := 929) rfl rfl ?_
  refine jx_next (pc := 929) (pc' := 930) rfl rfl ?_
  refine jx_next (pc := 930) (pc' := 931) rfl rfl ?_
  refine jx_next (pc := 931) (pc' := 932) rfl rfl ?_
  refine jxal (pc := 932) rfl (hb 1 (by decide)) ?_
  refine jx_callv (pc := 933) (o := 1) (rest := []) rfl ⟨by decide, by decide⟩ rfl jko_1 (Nat.le_of_ble_eq_true rfl) ?_
  refine kA_octet (hok hI) (by omega) hA ?_
  refine jx_next (pc := 936) (pc' := 937) rfl rfl ?_
  refine jx_next (pc := 937) (pc' := 938) rfl rfl ?_
  refine jx_next (pc := 938) (pc' := 939) rfl rfl ?_
  refine jx_next (pc := 939) (pc' := 940) rfl rfl ?_
  refine jx_next (pc := 940) (pc' := 941) rfl rfl ?_
  refine jxal (pc := 941) rfl (hb 1 (by decide)) ?_
  refine jx_callv (pc := 942) (o := 110) (rest := [.int zA]) rfl ⟨by decide, by decide⟩ rfl jko_110 (Nat.le_of_ble_eq_true rfl) ?_
  refine kM_octet (by omega) hM ?_
  refine jx_iceq (pc := 945) rfl (fun _ => ?_) (fun hn => absurd hz hn)
  exact K hI2
set_option maxRecDepth 20000 in
theorem jcase_33 (hok : ∀ {p d : Nat} {q : Nat → Nat} {h : jH}, I p d q h → jOK p d q) (hc : jcal_33 I) {p d : Nat} {q : Nat → Nat} {h : jH} {i : Int32} (hI : I p d q h) (hb : ∀ j : Int32, (0 < j.toInt ∧ j.toInt < 6) → jin (i + j) X.1) (K : ∀ {p d : Nat} {q : Nat → Nat} {h : jH}, I p d q h → jEx X (599 + 1) jlaw 986 [some (.ref 1032), some (.ref 1), some (.ref 110), some (.int i)] [] (176, jRf p d q, h) (fun r σ => r = some (.int 1) ∧ σ.1 < 1000)) : jEx X (599 + 1) jlaw 950 [some (.ref 1032), some (.ref 1), some (.ref 110), some (.int i)] [] (176, jRf p d q, h) (fun r σ => r = some (.int 1) ∧ σ.1 < 1000) := by
  obtain ⟨zA, hA, zM, hM, hz, hI2⟩ := hc hI
  refine jx_next (pc := 950) (pc' := 951) rfl rfl ?_
  refine jx_callv (pc := 951) (o := 1) (rest := []) rfl ⟨by decide, by decide⟩ rfl jko_1 (Nat.le_of_ble_eq_true rfl) ?_
  refine kA_on (hok hI) (by omega) hA ?_
  refine jx_next (pc := 954) (pc' := 955) rfl rfl ?_
  refine jx_callv (pc := 955) (o := 110) (rest := [.int zA.1]) rfl ⟨by decide, by decide⟩ rfl jko_110 (Nat.le_of_ble_eq_true rfl) ?_
  refine kM_on (by omega) hM ?_
  refine jx_iceq (pc := 958) rfl (fun _ => ?_) (fun hn => absurd hz hn)
  exact K hI2
set_option maxRecDepth 20000 in
theorem jcase_34 (hok : ∀ {p d : Nat} {q : Nat → Nat} {h : jH}, I p d q h → jOK p d q) (hc : jcal_34 I) {p d : Nat} {q : Nat → Nat} {h : jH} {i : Int32} (hI : I p d q h) (hb : ∀ j : Int32, (0 < j.toInt ∧ j.toInt < 6) → jin (i + j) X.1) (K : ∀ {p d : Nat} {q : Nat → Nat} {h : jH}, I p d q h → jEx X (599 + 1) jlaw 986 [some (.ref 1032), some (.ref 1), some (.ref 110), some (.int i)] [] (176, jRf p d q, h) (fun r σ => r = some (.int 1) ∧ σ.1 < 1000)) : jEx X (599 + 1) jlaw 963 [some (.ref 1032), some (.ref 1), some (.ref 110), some (.int i)] [] (176, jRf p d q, h) (fun r σ => r = some (.int 1) ∧ σ.1 < 1000) := by
  obtain ⟨zA, hA, zM, hM, hz, hI2⟩ := hc (X.2 (i + 1).toNatClampNeg) hI
  refine jx_next (pc := 963) (pc' := 964) rfl rfl ?_
  refine jx_next (pc := 964) (pc' := 965) rfl rfl ?_
  refine jx_next (pc := 965) (pc' := 966) rfl rfl ?_
  refine jx_next (pc := 966) (pc' := 967) rfl rfl ?_
  refine jx_next (pc := 967) (pc' := 968) rfl rfl ?_
  refine jxal (pc := 968) rfl (hb 1 (by decide)) ?_
  refine jx_callv (pc := 969) (o := 1) (rest := []) rfl ⟨by decide, by decide⟩ rfl jko_1 (Nat.le_of_ble_eq_true rfl) ?_
  refine kA_status (hok hI) (by omega) hA ?_
  refine jx_next (pc := 972) (pc' := 973) rfl rfl ?_
  refine jx_next (pc := 973) (pc' := 974) rfl rfl ?_
  refine jx_next (pc := 974) (pc' := 975) rfl rfl ?_
  refine jx_next (pc := 975) (pc' := 976) rfl rfl ?_
  refine jx_next (pc := 976) (pc' := 977) rfl rfl ?_
  refine jxal (pc := 977) rfl (hb 1 (by decide)) ?_
  refine jx_callv (pc := 978) (o := 110) (rest := [.int zA]) rfl ⟨by decide, by decide⟩ rfl jko_110 (Nat.le_of_ble_eq_true rfl) ?_
  refine kM_status (by omega) hM ?_
  refine jx_iceq (pc := 981) rfl (fun _ => ?_) (fun hn => absurd hz hn)
  exact K hI2
set_option maxRecDepth 20000 in
theorem jloop (hok : ∀ {p d : Nat} {q : Nat → Nat} {h : jH}, I p d q h → jOK p d q) (c0 : jcal_0 I) (c1 : jcal_1 I) (c2 : jcal_2 I) (c3 : jcal_3 I) (c4 : jcal_4 I) (c5 : jcal_5 I) (c6 : jcal_6 I) (c7 : jcal_7 I) (c8 : jcal_8 I) (c9 : jcal_9 I) (c10 : jcal_10 I) (c11 : jcal_11 I) (c12 : jcal_12 I) (c13 : jcal_13 I) (c14 : jcal_14 I) (c15 : jcal_15 I) (c16 : jcal_16 I) (c17 : jcal_17 I) (c18 : jcal_18 I) (c19 : jcal_19 I) (c20 : jcal_20 I) (c21 : jcal_21 I) (c22 : jcal_22 I) (c23 : jcal_23 I) (c24 : jcal_24 I) (c25 : jcal_25 I) (c26 : jcal_26 I) (c27 : jcal_27 I) (c28 : jcal_28 I) (c29 : jcal_29 I) (c30 : jcal_30 I) (c31 : jcal_31 I) (c32 : jcal_32 I) (c33 : jcal_33 I) (c34 : jcal_34 I) {L : Nat} {xs : Nat → Int32} (hL : L ≤ 3072) (hX : X = (L, xs)) : ∀ (n k : Nat), L ≤ k + n → k ≤ 4000 → ∀ {p d : Nat} {q : Nat → Nat} {h : jH}, I p d q h → jEx X (599 + 1) jlaw 18 [some (.ref 1032), some (.ref 1), some (.ref 110), some (.int (jz k))] [] (176, jRf p d q, h) (fun r σ => r = some (.int 1) ∧ σ.1 < 1000) := by
  intro n
  induction n with
  | zero =>
    intro k h1 hk p d q h hI
    refine jx_next (pc := 18) (pc' := 19) rfl rfl ?_
    refine jx_next (pc := 19) (pc' := 20) rfl rfl ?_
    refine jx_xlen (pc := 20) rfl (by decide) ?_
    refine jx_next (pc := 21) (pc' := 23) rfl rfl ?_
    refine jx_next (pc := 23) (pc' := 24) rfl rfl ?_
    refine jx_icgt (pc := 24) rfl (fun _ => ?_) (fun hn => absurd ?_ hn)
    · refine jx_next (pc := 992) (pc' := 993) rfl rfl ?_
      exact jx_zret (pc := 993) rfl (Or.inr rfl) ⟨rfl, by show 176 < 1000; omega⟩
    · subst hX
      show Int32.ofNat L - 6 < jz k
      rw [jz_nat, show (6 : Int32) = jz 6 from rfl, jz_sub, jz_lt (by omega) (by omega) (by omega) (by omega)]
      omega
  | succ n ih =>
  intro k h1 hk p d q h hI
  refine jx_next (pc := 18) (pc' := 19) rfl rfl ?_
  refine jx_next (pc := 19) (pc' := 20) rfl rfl ?_
  refine jx_xlen (pc := 20) rfl (by decide) ?_
  refine jx_next (pc := 21) (pc' := 23) rfl rfl ?_
  refine jx_next (pc := 23) (pc' := 24) rfl rfl ?_
  refine jx_icgt (pc := 24) rfl (fun _ => ?_) (fun hn => ?_)
  · refine jx_next (pc := 992) (pc' := 993) rfl rfl ?_
    exact jx_zret (pc := 993) rfl (Or.inr rfl) ⟨rfl, by show 176 < 1000; omega⟩
  have hk6 : (k : Int) ≤ L - 6 := by
    subst hX
    have hn : ¬ (Int32.ofNat L - 6 < jz k) := hn
    rw [jz_nat, show (6 : Int32) = jz 6 from rfl, jz_sub, jz_lt (by omega) (by omega) (by omega) (by omega)] at hn
    omega
  have hb : ∀ j : Int32, (0 < j.toInt ∧ j.toInt < 6) → jin (jz k + j) X.1 := by
    intro j hj
    subst hX
    rw [jz_self j, jz_add, jin_z (by omega) (by omega)]
    show 0 ≤ (k : Int) + j.toInt ∧ (k : Int) + j.toInt < (L : Int)
    omega
  have K2 : ∀ {p d : Nat} {q : Nat → Nat} {h : jH}, I p d q h → jEx X (599 + 1) jlaw 986 [some (.ref 1032), some (.ref 1), some (.ref 110), some (.int (jz k))] [] (176, jRf p d q, h) (fun r σ => r = some (.int 1) ∧ σ.1 < 1000) := by
    intro p d q h hI
    refine jx_inc (pc := 986) (x := jz k) (p2 := [some (.ref 1032), some (.ref 1), some (.ref 110), some (.int (jz ((k + 6 : Nat) : Int)))]) rfl rfl (jlt rfl) ?_ ?_
    · show js1 _ _ (.int (jz k + 6)) = _
      rw [show (6 : Int32) = jz 6 from rfl, jz_add]
      rfl
    refine jx_next (pc := 989) (pc' := 18) rfl rfl ?_
    exact ih (k + 6) (by omega) (by omega) hI
  refine jx_next (pc := 27) (pc' := 28) rfl rfl ?_
  refine jx_next (pc := 28) (pc' := 29) rfl rfl ?_
  refine jxal (pc := 29) rfl ?_ ?_
  · subst hX
    rw [jin_z (by omega) (by omega)]
    show 0 ≤ (k : Int) ∧ (k : Int) < (L : Int)
    omega
  refine jx_next (pc := 30) (pc' := 32) rfl rfl ?_
  refine jx_next (pc := 32) (pc' := 33) rfl rfl ?_
  refine jx_tsw (pc := 33) rfl ?_
  refine jx_sw1 (fun _ => jcase_0 hok c0 hI hb (fun hI => K2 hI)) (fun _ => ?_)
  refine jx_sw1 (fun _ => jcase_1 hok c1 hI hb (fun hI => K2 hI)) (fun _ => ?_)
  refine jx_sw1 (fun _ => jcase_2 hok c2 hI hb (fun hI => K2 hI)) (fun _ => ?_)
  refine jx_sw1 (fun _ => jcase_3 hok c3 hI hb (fun hI => K2 hI)) (fun _ => ?_)
  refine jx_sw1 (fun _ => jcase_4 hok c4 hI hb (fun hI => K2 hI)) (fun _ => ?_)
  refine jx_sw1 (fun _ => jcase_5 hok c5 hI hb (fun hI => K2 hI)) (fun _ => ?_)
  refine jx_sw1 (fun _ => jcase_6 hok c6 hI hb (fun hI => K2 hI)) (fun _ => ?_)
  refine jx_sw1 (fun _ => jcase_7 hok c7 hI hb (fun hI => K2 hI)) (fun _ => ?_)
  refine jx_sw1 (fun _ => jcase_8 hok c8 hI hb (fun hI => K2 hI)) (fun _ => ?_)
  refine jx_sw1 (fun _ => jcase_9 hok c9 hI hb (fun hI => K2 hI)) (fun _ => ?_)
  refine jx_sw1 (fun _ => jcase_10 hok c10 hI hb (fun hI => K2 hI)) (fun _ => ?_)
  refine jx_sw1 (fun _ => jcase_11 hok c11 hI hb (fun hI => K2 hI)) (fun _ => ?_)
  refine jx_sw1 (fun _ => jcase_12 hok c12 hI hb (fun hI => K2 hI)) (fun _ => ?_)
  refine jx_sw1 (fun _ => jcase_13 hok c13 hI hb (fun hI => K2 hI)) (fun _ => ?_)
  refine jx_sw1 (fun _ => jcase_14 hok c14 hI hb (fun hI => K2 hI)) (fun _ => ?_)
  refine jx_sw1 (fun _ => jcase_15 hok c15 hI hb (fun hI => K2 hI)) (fun _ => ?_)
  refine jx_sw1 (fun _ => jcase_16 hok c16 hI hb (fun hI => K2 hI)) (fun _ => ?_)
  refine jx_sw1 (fun _ => jcase_17 hok c17 hI hb (fun hI => K2 hI)) (fun _ => ?_)
  refine jx_sw1 (fun _ => jcase_18 hok c18 hI hb (fun hI => K2 hI)) (fun _ => ?_)
  refine jx_sw1 (fun _ => jcase_19 hok c19 hI hb (fun hI => K2 hI)) (fun _ => ?_)
  refine jx_sw1 (fun _ => jcase_20 hok c20 hI hb (fun hI => K2 hI)) (fun _ => ?_)
  refine jx_sw1 (fun _ => jcase_21 hok c21 hI hb (fun hI => K2 hI)) (fun _ => ?_)
  refine jx_sw1 (fun _ => jcase_22 hok c22 hI hb (fun hI => K2 hI)) (fun _ => ?_)
  refine jx_sw1 (fun _ => jcase_23 hok c23 hI hb (fun hI => K2 hI)) (fun _ => ?_)
  refine jx_sw1 (fun _ => jcase_24 hok c24 hI hb (fun hI => K2 hI)) (fun _ => ?_)
  refine jx_sw1 (fun _ => jcase_25 hok c25 hI hb (fun hI => K2 hI)) (fun _ => ?_)
  refine jx_sw1 (fun _ => jcase_26 hok c26 hI hb (fun hI => K2 hI)) (fun _ => ?_)
  refine jx_sw1 (fun _ => jcase_27 hok c27 hI hb (fun hI => K2 hI)) (fun _ => ?_)
  refine jx_sw1 (fun _ => jcase_28 hok c28 hI hb (fun hI => K2 hI)) (fun _ => ?_)
  refine jx_sw1 (fun _ => jcase_29 hok c29 hI hb (fun hI => K2 hI)) (fun _ => ?_)
  refine jx_sw1 (fun _ => jcase_30 hok c30 hI hb (fun hI => K2 hI)) (fun _ => ?_)
  refine jx_sw1 (fun _ => jcase_31 hok c31 hI hb (fun hI => K2 hI)) (fun _ => ?_)
  refine jx_sw1 (fun _ => jcase_32 hok c32 hI hb (fun hI => K2 hI)) (fun _ => ?_)
  refine jx_sw1 (fun _ => jcase_33 hok c33 hI hb (fun hI => K2 hI)) (fun _ => ?_)
  refine jx_sw1 (fun _ => jcase_34 hok c34 hI hb (fun hI => K2 hI)) (fun _ => ?_)
  refine jx_sw0 ?_
  exact K2 hI
end JLAW
